/-! ===== text: the key ===== -/
def zkl (w : Nat) : Nat := ([4, 3, 4] : List Nat).getD w 0
def zkb (w j : Nat) : Nat := (([[104, 117, 114, 116], [102, 101, 101], [102, 105, 110, 101]] : List (List Nat)).getD w []).getD j 0
def zkm (B : Nat → Nat) (st en w : Nat) : Prop := en - st = zkl w ∧ ∀ j, j < zkl w → B (st + j) = zkb w j
theorem zkl_le : ∀ w, w < 3 → 3 ≤ zkl w ∧ zkl w ≤ 4 := by decide
theorem c_len {i : Nat} (hi : i < 3) (w : zz_W) : fJ0_length_8abf5 i w = some (nI (zkl i), w) := by
  unfold fJ0_length_8abf5 fJ0_coder_7d493
  rw [decide_eq_true (show i < 6 by omega), zgrd_t, zgrd_t, if_neg z10, zbd2_s]
  rcases (show i = 0 ∨ i = 1 ∨ i = 2 by omega) with rfl | rfl | rfl
  · rw [show (Int32.ofNat (zlen.getD 0 0)) >>> ((0 : Int32) &&& 31) = nI (zkl 0) by decide]
  · rw [show (Int32.ofNat (zlen.getD 1 0)) >>> ((0 : Int32) &&& 31) = nI (zkl 1) by decide]
  · rw [show (Int32.ofNat (zlen.getD 2 0)) >>> ((0 : Int32) &&& 31) = nI (zkl 2) by decide]
theorem c_char0 (i : Nat) (a : Int32) (w : zz_W) : fJ0_charAt_5068e i a w = (fJ0_charAt_5068e i a zd).map (fun x => (x.1, w)) := by
  unfold fJ0_charAt_5068e fJ0_isLatin1_aae02 fJ1_charAt_3b067 fJ0_checkIndex_df160 fJ3_checkIndex_8e157 fJ3_checkIndex_8e157_9
  by_cases h : i < 6
  · rw [decide_eq_true h]
    simp only [zgrd_t, zbd2_e, if_true, if_false, show ¬ (1 : Int32) = 0 by decide]
    by_cases h1 : a < 0
    · simp only [if_pos h1]; rfl
    · simp only [if_neg h1]
      by_cases h2 : a < Int32.ofNat (zlen.getD i 0)
      · simp only [if_pos h2, zbd2_e, zbd_e]
        cases zldB i a with
        | none => rfl
        | some v =>
          simp only [zbd_e]
          cases zfit .char ((Int32.toUInt32 (v &&& 255) % 65536).toInt32) with
          | none => rfl
          | some u =>
            simp only [zbd_e, zbd2_e]
            cases zfit .char u <;> rfl
      · simp only [if_neg h2]; rfl
  · rw [decide_eq_false h]
    rfl
theorem c_charK : ∀ i, i < 3 → ∀ j, j < zkl i → (fJ0_charAt_5068e i (nI j) zd).map Prod.fst = some (nI (zkb i j)) := by decide +kernel
theorem c_char {i j : Nat} (hi : i < 3) (hj : j < zkl i) (w : zz_W) : fJ0_charAt_5068e i (nI j) w = some (nI (zkb i j), w) := by
  have h := c_charK i hi j hj
  rw [c_char0]
  cases e : fJ0_charAt_5068e i (nI j) zd with
  | none => rw [e] at h; cases h
  | some v => rw [e] at h; have := Option.some.inj h; show some (v.1, w) = _; rw [show v.1 = _ from this]
theorem zkb_lt : ∀ i, i < 3 → ∀ j, j < zkl i → zkb i j < 256 := by decide +kernel
theorem c_word28 {c m : zz_W} {T st en i : Nat} {B : Nat → Nat} (hb : zBy c m T B) (hi : i < 3) (h3 : zgI c 36 3 = nI st) (hen : en ≤ T) (hlen : en - st = zkl i) : ∀ d j n, j + d = zkl i → d < n →
    ((∀ y, j ≤ y → y < zkl i → B (st + y) = zkb i y) ∧ fX4_wordIs_28 i n (nI j) c = some (1, c)) ∨ ((¬ ∀ y, j ≤ y → y < zkl i → B (st + y) = zkb i y) ∧ fX4_wordIs_28 i n (nI j) c = some (0, c)) := by
  have hT := hb.1
  have hl := zkl_le i hi
  intro d
  induction d with
  | zero =>
    intro j n hj hn
    obtain ⟨n, rfl⟩ : ∃ x, n = x + 1 := ⟨n - 1, by omega⟩
    left
    refine ⟨fun y h1 h2 => by omega, ?_⟩
    rw [fX4_wordIs_28, c_len hi, zbd2_s, if_pos (nI_le (by omega) (by omega))]
  | succ d ih =>
    intro j n hj hn
    obtain ⟨n, rfl⟩ : ∃ x, n = x + 1 := ⟨n - 1, by omega⟩
    obtain ⟨e1, _, e3⟩ := hb.2.2.2 (st + j) (by omega)
    have hz := zkb_lt i hi j (by omega)
    rw [fX4_wordIs_28, c_len hi, zbd2_s, if_neg (nI_ge (by omega) (by omega)), zbd_s, h3, nI_add, zld (i := st + j) (by omega) (by omega), zbd_s, e1, c_char hi (by omega), zbd2_s, zceq (by omega) (by omega), zbd_s, nI_1]
    by_cases q : B (st + j) = zkb i j
    · rw [if_pos q]
      rcases ih (j + 1) n (by omega) (by omega) with ⟨r1, r2⟩ | ⟨r1, r2⟩
      · refine Or.inl ⟨fun y h1 h2 => ?_, r2⟩
        by_cases z : y = j
        · rw [z]; exact q
        · exact r1 y (by omega) h2
      · exact Or.inr ⟨fun z => r1 (fun y h1 h2 => z y (by omega) h2), r2⟩
    · rw [if_neg q]
      exact Or.inr ⟨fun z => q (z j (Nat.le_refl j) (by omega)), rfl⟩
theorem c_wordIs {c m : zz_W} {T st en κ i : Nat} {B : Nat → Nat} {bad : Prop} (hb : zBy c m T B) (tk : zTk T B c m st en κ bad) (hi : i < 3) : ((κ = 1 ∧ zkm B st en i) ∧ fX4_wordIs i c = some (1, c)) ∨ (¬ (κ = 1 ∧ zkm B st en i) ∧ fX4_wordIs i c = some (0, c)) := by
  have hf := zfuel_big
  have hT := hb.1
  have hst := (zTk_st tk).1
  have hκ := (zTk_st tk).2
  have hl := zkl_le i hi
  obtain ⟨t1, t2, t3, t4, t5, t6, t7, t8, t9, _⟩ := tk
  unfold fX4_wordIs
  rw [decide_eq_true (show i < 6 by omega), zgrd_t, zbd_s, t3, show (1 : Int32) = nI 1 from rfl, zceq (by omega) (by omega)]
  by_cases e : κ = 1
  · rw [if_pos e, zbd_s, zbd_s, t1, t2, c_len hi, zbd2_s, pk_sub (by omega), zceq (by omega) (by omega)]
    by_cases e2 : en - st = zkl i
    · rw [if_pos e2]
      rcases c_word28 hb hi t1 t8 e2 (zkl i) 0 zfuel (by omega) (by omega) with ⟨r1, r2⟩ | ⟨r1, r2⟩
      · exact Or.inl ⟨⟨e, e2, fun j hj => r1 j (by omega) hj⟩, r2⟩
      · exact Or.inr ⟨fun z => r1 (fun y _ h2 => z.2.2 y h2), r2⟩
    · rw [if_neg e2]
      exact Or.inr ⟨fun z => e2 z.2.1, rfl⟩
  · rw [if_neg e]
    exact Or.inr ⟨fun z => e z.1, rfl⟩
theorem c_keyHere {c m : zz_W} {T st en κ : Nat} {B : Nat → Nat} {bad : Prop} (hb : zBy c m T B) (tk : zTk T B c m st en κ bad) :
    (∃ k, k < 3 ∧ κ = 1 ∧ zkm B st en k ∧ (∀ j, j < k → ¬ zkm B st en j) ∧ fX4_keyHere c = some (nI k, c)) ∨ ((∀ k, k < 3 → ¬ (κ = 1 ∧ zkm B st en k)) ∧ fX4_keyHere c = some (-1, c)) := by
  unfold fX4_keyHere
  rcases c_wordIs hb tk (i := 0) (by omega) with ⟨⟨a1, a2⟩, a3⟩ | ⟨a1, a3⟩
  · rw [a3, zbd2_s, if_neg z10]
    exact Or.inl ⟨0, by omega, a1, a2, fun j hj => by omega, rfl⟩
  · rw [a3, zbd2_s, if_pos rfl]
    rcases c_wordIs hb tk (i := 1) (by omega) with ⟨⟨b1, b2⟩, b3⟩ | ⟨b1, b3⟩
    · rw [b3, zbd2_s, if_neg z10]
      exact Or.inl ⟨1, by omega, b1, b2, fun j hj z => a1 ⟨b1, by rw [show j = 0 by omega] at z; exact z⟩, rfl⟩
    · rw [b3, zbd2_s, if_pos rfl]
      rcases c_wordIs hb tk (i := 2) (by omega) with ⟨⟨d1, d2⟩, d3⟩ | ⟨d1, d3⟩
      · rw [d3, zbd2_s, if_neg z10]
        refine Or.inl ⟨2, by omega, d1, d2, fun j hj z => ?_, rfl⟩
        rcases (show j = 0 ∨ j = 1 by omega) with rfl | rfl
        · exact a1 ⟨d1, z⟩
        · exact b1 ⟨d1, z⟩
      · rw [d3, zbd2_s, if_pos rfl]
        refine Or.inr ⟨fun k hk z => ?_, rfl⟩
        rcases (show k = 0 ∨ k = 1 ∨ k = 2 by omega) with rfl | rfl | rfl
        · exact a1 z
        · exact b1 z
        · exact d1 z
/-! the reference's -/
def zka (w : Nat) : Nat := ([0, 4, 7, 11] : List Nat).getD w 0
theorem zka_s : ∀ w, w < 3 → zka (w + 1) = zka w + zkl w ∧ zka w ≤ 7 := by decide
theorem zkeyA : ∀ w, w < 4 → zgI zm0 9 w = nI (zka w) := by decide +kernel
theorem zkeyB : ∀ w, w < 3 → ∀ j, j < zkl w → zgI zm0 8 (zka w + j) = nI (zkb w j) := by decide +kernel
theorem m_55 {c m : zz_W} {T st en w : Nat} {B : Nat → Nat} (hb : zBy c m T B) (hw : w < 3) (h10 : zgI m 0 10 = nI st) (hen : en ≤ T) (hlen : en - st = zkl w) (hk : (∀ i, i < 11 → zgI m 8 i = zgI zm0 8 i) ∧ (∀ i, i < 4 → zgI m 9 i = zgI zm0 9 i)) (k12 : Int32 → zz_W → Option (Int32 × zz_W)) : ∀ d j n, j + d = zkl w → d + 1 < n →
    ((∀ y, j ≤ y → y < zkl w → B (st + y) = zkb w y) ∧ fX8_takesKey_55 k12 n (nI w) (nI (zkl w)) 1 (nI j) m = fX8_takesKey_106 k12 (nI w) 1 m) ∨ ((¬ ∀ y, j ≤ y → y < zkl w → B (st + y) = zkb w y) ∧ fX8_takesKey_55 k12 n (nI w) (nI (zkl w)) 1 (nI j) m = fX8_takesKey_106 k12 (nI w) 0 m) := by
  have hT := hb.1
  have hl := zkl_le w hw
  have ha := zka_s w hw
  intro d
  induction d with
  | zero =>
    intro j n hj hn
    obtain ⟨n, rfl⟩ : ∃ x, n = x + 1 := ⟨n - 1, by omega⟩
    left
    refine ⟨fun y h1 h2 => by omega, ?_⟩
    rw [fX8_takesKey_55, if_pos (nI_le (by omega) (by omega))]
  | succ d ih =>
    intro j n hj hn
    obtain ⟨n, rfl⟩ : ∃ x, n = x + 2 := ⟨n - 2, by omega⟩
    obtain ⟨_, e1, e3⟩ := hb.2.2.2 (st + j) (by omega)
    have hz := zkb_lt w hw j (by omega)
    rw [fX8_takesKey_55, if_neg (nI_ge (by omega) (by omega)), if_neg z10, zbd_s, h10, nI_add, zld (i := st + j) (by omega) (by omega), zbd_s, e1, zld (i := w) (by omega) (by omega), zbd_s, hk.2 w (by omega), zkeyA w (by omega), nI_add, zld (i := zka w + j) (by omega) (by omega), zbd_s, hk.1 _ (by omega), zkeyB w hw j (by omega), zceq (by omega) (by omega), zbd_s, nI_1, zbd_s]
    by_cases q : B (st + j) = zkb w j
    · rw [if_pos q]
      rcases ih (j + 1) (n + 1) (by omega) (by omega) with ⟨r1, r2⟩ | ⟨r1, r2⟩
      · refine Or.inl ⟨fun y h1 h2 => ?_, r2⟩
        by_cases z : y = j
        · rw [z]; exact q
        · exact r1 y (by omega) h2
      · exact Or.inr ⟨fun z => r1 (fun y h1 h2 => z y (by omega) h2), r2⟩
    · rw [if_neg q]
      refine Or.inr ⟨fun z => q (z j (Nat.le_refl j) (by omega)), ?_⟩
      rw [fX8_takesKey_55, if_pos rfl]
      split <;> rfl
theorem m_12 {c m : zz_W} {T st en w n : Nat} {B : Nat → Nat} (hb : zBy c m T B) (hw : w < 3) (h10 : zgI m 0 10 = nI st) (h9 : zgI m 0 9 = nI en) (hse : st ≤ en) (hen : en ≤ T) (hk : (∀ i, i < 11 → zgI m 8 i = zgI zm0 8 i) ∧ (∀ i, i < 4 → zgI m 9 i = zgI zm0 9 i)) :
    (zkm B st en w ∧ fX8_takesKey_12 (n + 1) (nI w) m = zbd (fX8_go (zsI m 0 14 (nI w))) (fun w26 => some (1, w26))) ∨ (¬ zkm B st en w ∧ fX8_takesKey_12 (n + 1) (nI w) m = fX8_takesKey_12 n (nI (w + 1)) m) := by
  have hf := zfuel_big
  have hT := hb.1
  have hl := zkl_le w hw
  have ha := zka_s w hw
  rw [fX8_takesKey_12, if_neg (show ¬ (3 : Int32) ≤ nI w from nI_ge (b := 3) (by omega) (by omega)), nI_1, zld (i := w + 1) (by omega) (by omega), zbd_s, zld (i := w) (by omega) (by omega), zbd_s, zbd_s, zbd_s, zbd_s, hk.2 w (by omega), hk.2 (w + 1) (by omega), zkeyA w (by omega), zkeyA (w + 1) (by omega), h9, h10, pk_sub (by omega), pk_sub (by omega), show zka (w + 1) - zka w = zkl w by omega, zceq (by omega) (by omega)]
  obtain ⟨f, hf1⟩ : ∃ f, zfuel = f + 1 := ⟨3999, rfl⟩
  by_cases e : zkl w = en - st
  · rw [if_pos e]
    rcases m_55 hb hw h10 hen e.symm hk (fX8_takesKey_12 n) (zkl w) 0 zfuel (by omega) (by omega) with ⟨r1, r2⟩ | ⟨r1, r2⟩
    · left
      refine ⟨⟨e.symm, fun j hj => r1 j (by omega) hj⟩, ?_⟩
      rw [show fX8_takesKey_55 (fX8_takesKey_12 n) zfuel (nI w) (nI (zkl w)) 1 0 m = _ from r2]
      unfold fX8_takesKey_106
      rw [if_neg z10, zbd_s]
    · right
      refine ⟨fun z => r1 (fun y _ h2 => z.2 y h2), ?_⟩
      rw [show fX8_takesKey_55 (fX8_takesKey_12 n) zfuel (nI w) (nI (zkl w)) 1 0 m = _ from r2]
      unfold fX8_takesKey_106
      rw [if_pos rfl, zbd_s, nI_1]
  · rw [if_neg e, hf1, fX8_takesKey_55, if_neg (nI_nle (by omega) (by omega)), if_pos rfl]
    right
    refine ⟨fun z => e z.1.symm, ?_⟩
    unfold fX8_takesKey_106
    rw [if_pos rfl, zbd_s, nI_1]
theorem m_takesKey {c m : zz_W} {T st en κ : Nat} {B : Nat → Nat} {bad : Prop} (hb : zBy c m T B) (tk : zTk T B c m st en κ bad) (hbad : ¬ bad) (hk : (∀ i, i < 11 → zgI m 8 i = zgI zm0 8 i) ∧ (∀ i, i < 4 → zgI m 9 i = zgI zm0 9 i)) :
    (∀ k, k < 3 → κ = 1 → zkm B st en k → (∀ j, j < k → ¬ zkm B st en j) → fX8_takesKey m = zbd (fX8_go (zsI m 0 14 (nI k))) (fun w26 => some (1, w26))) ∧ ((∀ k, k < 3 → ¬ (κ = 1 ∧ zkm B st en k)) → fX8_takesKey m = some (0, m)) := by
  have hst := (zTk_st tk).1
  have hκ := (zTk_st tk).2
  have hT := hb.1
  obtain ⟨t1, t2, t3, t4, t5, t6, t7, t8, t9, t10, t11, t12, t13, t14, t15⟩ := id tk
  have t11' : zgI m 0 11 = (if κ = 2 ∧ 4 < en - st then 4 else nI κ) := by
    rcases t15 with ⟨q, _⟩ | ⟨_, _, q⟩
    · exact absurd q hbad
    · exact q
  obtain ⟨f, hf1⟩ : ∃ f, zfuel = f + 4 := ⟨3996, rfl⟩
  have s0 := m_12 (w := 0) (n := f + 3) hb (by omega) t4 t5 t7 t8 hk
  have s1 := m_12 (w := 1) (n := f + 2) hb (by omega) t4 t5 t7 t8 hk
  have s2 := m_12 (w := 2) (n := f + 1) hb (by omega) t4 t5 t7 t8 hk
  refine ⟨fun k hk3 e1 hz hn => ?_, fun hn => ?_⟩
  · unfold fX8_takesKey
    rw [zbd_s, t11', if_neg (show ¬ (κ = 2 ∧ 4 < en - st) by omega), e1, if_pos (show nI 1 = 1 from rfl), hf1, show (0 : Int32) = nI 0 from rfl]
    rcases (show k = 0 ∨ k = 1 ∨ k = 2 by omega) with rfl | rfl | rfl
    · rcases s0 with ⟨_, r⟩ | ⟨q, _⟩
      · exact r
      · exact absurd hz q
    · rcases s0 with ⟨q, _⟩ | ⟨_, r0⟩
      · exact absurd q (hn 0 (by omega))
      · rw [r0]
        rcases s1 with ⟨_, r⟩ | ⟨q, _⟩
        · exact r
        · exact absurd hz q
    · rcases s0 with ⟨q, _⟩ | ⟨_, r0⟩
      · exact absurd q (hn 0 (by omega))
      · rw [r0]
        rcases s1 with ⟨q, _⟩ | ⟨_, r1⟩
        · exact absurd q (hn 1 (by omega))
        · rw [show nI (0 + 1) = nI 1 from rfl, r1]
          rcases s2 with ⟨_, r⟩ | ⟨q, _⟩
          · exact r
          · exact absurd hz q
  · unfold fX8_takesKey
    rw [zbd_s, t11']
    by_cases e1 : κ = 1
    · rw [if_neg (show ¬ (κ = 2 ∧ 4 < en - st) by omega), e1, if_pos (show nI 1 = 1 from rfl), hf1, show (0 : Int32) = nI 0 from rfl]
      rcases s0 with ⟨q, _⟩ | ⟨_, r0⟩
      · exact absurd ⟨e1, q⟩ (hn 0 (by omega))
      · rw [r0]
        rcases s1 with ⟨q, _⟩ | ⟨_, r1⟩
        · exact absurd ⟨e1, q⟩ (hn 1 (by omega))
        · rw [show nI (0 + 1) = nI 1 from rfl, r1]
          rcases s2 with ⟨q, _⟩ | ⟨_, r2⟩
          · exact absurd ⟨e1, q⟩ (hn 2 (by omega))
          · rw [show nI (1 + 1) = nI 2 from rfl, r2, fX8_takesKey_12, if_pos (show (3 : Int32) ≤ nI (2 + 1) by decide)]
            rfl
    · have : ¬ (if κ = 2 ∧ 4 < en - st then (4 : Int32) else nI κ) = 1 := by
        split
        · decide
        · exact fun z => e1 ((nI_eq (b := 1) (by omega) (by decide)).mp z)
      rw [if_neg this]
