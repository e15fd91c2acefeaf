/-! ===== text: a piece ===== -/
def zNj (B : Nat → Nat) (L br : Nat) (m : zz_W) (st κ : Nat) : Prop := ∀ s, s < 9 → κ = 3 → B st = zsgB s → zrk2 s ≤ L ∨ (zrk2 s = 3 ∧ ¬ zgI m 12 br = 0)
def zOkF (c0 m0 : zz_W) (T : Nat) (B : Nat → Nat) (key L br nt : Nat) (X S : List Nat) (st : Nat) (m c1 : zz_W) (x : Option (Int32 × zz_W)) : Prop :=
  ∃ m1 st1 en1 κ1 Z Y1 D k1, zPs c0 m0 T B key c1 m1 st1 en1 κ1 False (X ++ Z) Y1 (D ++ S) ∧ X ++ Z = Y1 ++ D ∧ zWF key Z ∧ st < st1 ∧ (∀ t ∈ D, t < 9 ∧ L < zrk2 t) ∧ zNj B L br m1 st1 κ1 ∧ (∀ b, b < br → zgI m1 12 b = zgI m 12 b) ∧ (3 ≤ L → (zgI m1 12 br = 0 ↔ zgI m 12 br = 0)) ∧ x = fX8_takesE_28 k1 (nI br) (nI nt) 0 m1 ∧ T - st1 < k1
def zMF (c0 m0 : zz_W) (T : Nat) (B : Nat → Nat) (key d : Nat) (F : Int32 → Int32 → Int32 → zz_W → Option zz_W) : Prop :=
  ∀ (L br nt : Nat) (c m : zz_W) (st en κ : Nat) (bad : Prop) (X S : List Nat) (k : Nat), L ≤ 5 → br ≤ 8 → nt ≤ 8 → 7 * (8 - br) + (8 - nt) + (7 - L) ≤ d → zPs c0 m0 T B key c m st en κ bad X X S → znt S = nt → zstop (L + 1) S → (L ≤ 2 → zgI m 12 br = 0) → T - st < k →
    ∃ c1, F (nI L) (nI br) (nI nt) c = some c1 ∧ (zFail c0 m0 c1 (fX8_takesE_28 k (nI br) (nI nt) 1 m) ∨ zOkF c0 m0 T B key L br nt X S st m c1 (fX8_takesE_28 k (nI br) (nI nt) 1 m))
def zOkG (c0 m0 : zz_W) (T : Nat) (B : Nat → Nat) (key br j : Nat) (X S0 : List Nat) (st : Nat) (m c1 : zz_W) (x : Option (Int32 × zz_W)) : Prop :=
  ∃ m1 st1 en1 κ1 Z k1, zPs c0 m0 T B key c1 m1 st1 en1 κ1 False (X ++ Z) (X ++ Z ++ List.replicate j 9) S0 ∧ zWF key Z ∧ st < st1 ∧ (∀ b, b ≤ br → zgI m1 12 b = zgI m 12 b) ∧ x = fX8_takesE_28 k1 (nI br) (nI (znt S0)) 0 m1 ∧ T - st1 < k1
def zMG (c0 m0 : zz_W) (T : Nat) (B : Nat → Nat) (key d : Nat) (G : Int32 → Int32 → zz_W → Option zz_W) : Prop :=
  ∀ (br nt : Nat) (c m : zz_W) (st en κ : Nat) (bad : Prop) (X S0 : List Nat) (j k : Nat), br ≤ 8 → nt ≤ 8 → 7 * (8 - br) + (8 - nt) + 1 ≤ d → zPs c0 m0 T B key c m st en κ bad X X (List.replicate j 9 ++ S0) → znt (List.replicate j 9 ++ S0) = nt → zstop 6 S0 → T - st < k →
    ∃ c1, G (nI br) (nI nt) c = some c1 ∧ (zFail c0 m0 c1 (fX8_takesE_28 k (nI br) (nI nt) 1 m) ∨ zOkG c0 m0 T B key br j X S0 st m c1 (fX8_takesE_28 k (nI br) (nI nt) 1 m))
theorem zbd_id {α : Type} (x : Option α) : zbd x (fun w => some w) = x := by cases x <;> rfl
/-! the fail at the word that stands -/
theorem w_fail {c0 m0 c m : zz_W} {T key st en κ : Nat} {B : Nat → Nat} {X Y S : List Nat} {bad : Prop} (hb0 : zBy c0 m0 T B) (h : zPs c0 m0 T B key c m st en κ bad X Y S) {x : Option (Int32 × zz_W)} (hx : x = some (0, m)) : (bad → zFail c0 m0 c x) ∧ (¬ bad → fX4_blame c = some (zsI c 36 6 (nI st)) ∧ zFail c0 m0 (zsI c 36 6 (nI st)) x) := by
  obtain ⟨tk, pc, pm, ⟨x1, x2, x3⟩, _, _, l1, l2, _⟩ := h
  obtain ⟨hst, hκ⟩ := zTk_st tk
  have hT := hb0.1
  obtain ⟨t1, t2, t3, t4, t5, t6, t7, t8, t9, t10, t11, t12, t13, t14, t15⟩ := tk
  refine ⟨fun hb => ?_, fun hb => ?_⟩
  · rcases t15 with ⟨_, q, _⟩ | ⟨q, _⟩
    · exact ⟨st, m, by omega, q, hx, t4, pm, pc, ⟨X.length, by omega, x1⟩, ⟨st, by omega, t1⟩⟩
    · exact absurd hb q
  · rcases t15 with ⟨q, _⟩ | ⟨_, q, _⟩
    · exact absurd q hb
    · refine ⟨by rw [c_blame0 q, t1], st, m, by omega, by rw [zgI_sI, if_pos ⟨rfl, rfl⟩], hx, t4, pm, zPc_s pc (by omega) _, ⟨X.length, by omega, by rw [zgI_sI, if_neg (by omega)]; exact x1⟩, ⟨st, by omega, by rw [zgI_sI, if_neg (by omega)]; exact t1⟩⟩
/-- the tail of an atom or a bracket: the next word may stand too close -/
theorem w_after {c0 m0 c1 m1 m : zz_W} {T key st st1 en1 κ1 j br k : Nat} {B : Nat → Nat} {X Z S0 : List Nat} {bad1 : Prop} (hb0 : zBy c0 m0 T B) (h : zPs c0 m0 T B key c1 m1 st1 en1 κ1 bad1 (X ++ Z) (X ++ Z ++ List.replicate j 9) S0) (hZ : zWF key Z) (hst : st < st1) (hb : ∀ b, b ≤ br → zgI m1 12 b = zgI m 12 b) {x : Option (Int32 × zz_W)} (hx : x = fX8_takesE_28 k (nI br) (nI (znt S0)) 0 m1) (hk : T - st1 < k) :
    zFail c0 m0 c1 x ∨ zOkG c0 m0 T B key br j X S0 st m c1 x := by
  by_cases hb1 : bad1
  · left
    obtain ⟨k, rfl⟩ : ∃ y, k = y + 1 := ⟨k - 1, by omega⟩
    have t15 := h.1.2.2.2.2.2.2.2.2.2.2.2.2.2.2
    rcases t15 with ⟨_, _, q, _⟩ | ⟨q, _⟩
    · exact (w_fail hb0 h (x := x) (by rw [hx]; exact r0_word q (by decide) (by decide))).1 hb1
    · exact absurd hb1 q
  · right
    rw [eq_false hb1] at h
    exact ⟨m1, st1, en1, κ1, Z, k, h, hZ, hst, hb, hx, hk⟩
theorem w_172 {c0 m0 c1 m1 : zz_W} {T key st1 en1 κ1 : Nat} {B : Nat → Nat} {X Y S : List Nat} {bad1 : Prop} (hb0 : zBy c0 m0 T B) (h : zPs c0 m0 T B key c1 m1 st1 en1 κ1 bad1 X Y S) (f : Int32 → Int32 → Int32 → zz_W → Option (Int32 × zz_W)) (l1 l3 : Int32) : fX8_takesE_172 f l1 l3 m1 = f l1 (nI (znt S)) l3 m1 := by
  obtain ⟨tk, pc, pm, _, _, ⟨s1, s2, s3⟩, l1', l2', _⟩ := h
  have hT := hb0.1
  have := (zTk_st tk).1
  unfold fX8_takesE_172
  rw [m_nots (by omega) s2 s3 s1, zbd2_s]
theorem c_num {c m : zz_W} {T st en : Nat} {B : Nat → Nat} (hb : zBy c m T B) (hen : en ≤ T) (h4 : zgI c 36 4 = nI en) (hle : en - st ≤ 4) (hd : ∀ j, st ≤ j → j < en → zkd T B j = 2) : ∀ d i k, st + i + d = en → d < k → fX4_readNumber_25 k (nI (zdg B st i)) (nI (st + i)) c = fX4_writeAtom (nI (zdg B st (en - st))) c := by
  have hT := hb.1
  intro d
  induction d with
  | zero =>
    intro i k hi hk
    obtain ⟨k, rfl⟩ : ∃ x, k = x + 1 := ⟨k - 1, by omega⟩
    rw [fX4_readNumber_25, zbd_s, h4, if_pos (nI_le (by omega) (by omega)), zbd_id, show en - st = i by omega]
  | succ d ih =>
    intro i k hi hk
    obtain ⟨k, rfl⟩ : ∃ x, k = x + 1 := ⟨k - 1, by omega⟩
    have h2 := zkd_2 (hd (st + i) (by omega) (by omega))
    obtain ⟨e1, _, e3⟩ := hb.2.2.2 (st + i) (by omega)
    have lt := zdg_lt4 (B := B) (st := st) (k := i) (by omega) (fun j hj => zkd_2 (hd (st + j) (by omega) (by omega)))
    rw [fX4_readNumber_25, zbd_s, h4, if_neg (nI_ge (by omega) (by omega)), zld (i := st + i) (by omega) (by omega), zbd_s, e1, zbd_s, zbd_s, nI_1]
    rw [show nI (zdg B st i) * 10 + nI (B (st + i)) - 48 = nI (zdg B st (i + 1)) by
      rw [show nI (zdg B st i) * 10 = nI (zdg B st i * 10) from pk_mul _ 10, nI_add, show (48 : Int32) = nI 48 from rfl, pk_sub (by omega), zdg, Nat.mul_comm]]
    exact ih (i + 1) k (by omega) (by omega)
/-! names -/
def zni (key b : Nat) : Nat := if key = 0 then (if b = 100 then 0 else if b = 109 then 1 else if b = 108 then 2 else 3) else if key = 1 then (if b = 99 then 0 else if b = 116 then 1 else 3) else (if b = 111 then 0 else if b = 100 then 1 else 3)
def znv (p : Nat) : Int32 := if p = 3 then -1 else nI p
theorem m_nameOf {m : zz_W} {key b : Nat} (hk : key < 3) (hb : b < 256) (h : zgI m 0 14 = nI key) : fX8_nameOf (nI b) m = some (znv (zni key b), m) := by
  unfold fX8_nameOf zni
  rw [zbd_s, h]
  rw [show (100 : Int32) = nI 100 from rfl, show (109 : Int32) = nI 109 from rfl, show (108 : Int32) = nI 108 from rfl, show (99 : Int32) = nI 99 from rfl, show (116 : Int32) = nI 116 from rfl, show (111 : Int32) = nI 111 from rfl]
  simp only [zceq (show b < 2 ^ 31 by omega) (show 100 < 2 ^ 31 by omega), zceq (show b < 2 ^ 31 by omega) (show 109 < 2 ^ 31 by omega), zceq (show b < 2 ^ 31 by omega) (show 108 < 2 ^ 31 by omega), zceq (show b < 2 ^ 31 by omega) (show 99 < 2 ^ 31 by omega), zceq (show b < 2 ^ 31 by omega) (show 116 < 2 ^ 31 by omega), zceq (show b < 2 ^ 31 by omega) (show 111 < 2 ^ 31 by omega)]
  rcases (show key = 0 ∨ key = 1 ∨ key = 2 by omega) with rfl | rfl | rfl
  · rw [if_pos (show nI 0 = 0 from rfl), if_pos rfl]
    (repeat' split) <;> rfl
  · rw [if_neg (show ¬ nI 1 = 0 by decide), if_pos (show nI 1 = 1 from rfl), if_neg (show ¬ (1 : Nat) = 0 by omega), if_pos (show (1 : Nat) = 1 from rfl)]
    (repeat' split) <;> rfl
  · rw [if_neg (show ¬ nI 2 = 0 by decide), if_neg (show ¬ nI 2 = 1 by decide), if_neg (show ¬ (2 : Nat) = 0 by omega), if_neg (show ¬ (2 : Nat) = 1 by omega)]
    (repeat' split) <;> rfl
theorem c_ix7 (a1 : Nat) (a2 a3 a4 : Int32) : ∀ (n : Nat) (l3 l4 l5 : Int32) (w : zz_W), fJ1_indexOfChar_4cfef_7 a1 a2 a3 a4 n l3 l4 l5 w = (fJ1_indexOfChar_4cfef_7 a1 a2 a3 a4 n l3 l4 l5 zd).map (fun x => (x.1, w)) := by
  intro n
  induction n with
  | zero => intro l3 l4 l5 w; rw [fJ1_indexOfChar_4cfef_7, fJ1_indexOfChar_4cfef_7]; rfl
  | succ n ih =>
    intro l3 l4 l5 w
    rw [fJ1_indexOfChar_4cfef_7, fJ1_indexOfChar_4cfef_7]
    split
    · rfl
    · cases zldB a1 l5 with
      | none => rfl
      | some v =>
        simp only [zbd_e]
        by_cases q : v = l4
        · rw [if_pos q, if_pos q]; rfl
        · rw [if_neg q, if_neg q]; exact ih _ _ _ w
theorem zgrd_map {α β : Type} (b : Bool) (x : Option α) (f : α → β) : zgrd b (x.map f) = (zgrd b x).map f := by cases b <;> rfl
theorem c_index0 (i : Nat) (a : Int32) (w : zz_W) : fJ0_indexOf_0f7a4 i a w = (fJ0_indexOf_0f7a4 i a zd).map (fun x => (x.1, w)) := by
  unfold fJ0_indexOf_0f7a4 fJ0_indexOf_7cf53 fJ1_indexOf_4cfef fJ1_indexOfChar_4cfef fJ0_isLatin1_aae02 fJ0_length_8abf5 fJ0_coder_7d493 fJ1_canEncode_9a6ad
  have hi := c_ix7 i a
  by_cases h : i < 6
  · rw [decide_eq_true h]
    simp only [zgrd_t, zbd_e, zbd2_e, if_true, if_false, show ¬ (1 : Int32) = 0 by decide]
    by_cases h1 : a < 0
    · simp only [if_pos h1, zbd2_e, if_true]; rfl
    · simp only [if_neg h1]
      by_cases h2 : 255 < a
      · simp only [if_pos h2, zbd2_e, if_true]; rfl
      · simp only [if_neg h2, zbd2_e, if_false, show ¬ (1 : Int32) = 0 by decide]
        split
        · rw [hi]
          cases fJ1_indexOfChar_4cfef_7 i a _ _ zfuel _ _ _ zd <;> rfl
        · rfl
  · rw [decide_eq_false h]
    rfl
theorem c_indexK : ∀ key, key < 3 → ∀ b, b < 256 → (fJ0_indexOf_0f7a4 (3 + key) ((Int32.toUInt32 (nI b) % 65536).toInt32) zd).map Prod.fst = some (znv (zni key b)) := by decide +kernel
theorem c_index {key b : Nat} (hk : key < 3) (hb : b < 256) (w : zz_W) : fJ0_indexOf_0f7a4 (3 + key) ((Int32.toUInt32 (nI b) % 65536).toInt32) w = some (znv (zni key b), w) := by
  have h := c_indexK key hk b hb
  rw [c_index0]
  cases e : fJ0_indexOf_0f7a4 (3 + key) ((Int32.toUInt32 (nI b) % 65536).toInt32) zd with
  | none => rw [e] at h; cases h
  | some v => rw [e] at h; have := Option.some.inj h; show some (v.1, w) = _; rw [show v.1 = _ from this]
theorem zni_le (key b : Nat) : zni key b ≤ 3 := by unfold zni; (repeat' split) <;> omega
theorem zni_2 {key b : Nat} (h : zni key b = 2) : key = 0 := by
  unfold zni at h
  by_cases e : key = 0
  · exact e
  · rw [if_neg e] at h
    split at h
    · split at h
      · omega
      · split at h <;> omega
    · split at h
      · omega
      · split at h <;> omega
theorem zm3 : ∀ p, p < 3 → (-3 : Int32) + nI p = nI p - 3 := by decide
theorem c_readName {c m : zz_W} {T st en κ key : Nat} {B : Nat → Nat} {bad : Prop} (hb : zBy c m T B) (tk : zTk T B c m st en κ bad) (h0 : ¬ κ = 0) (hk : key < 3) (h7 : zgI c 36 7 = nI key) : fX4_readName c = (if en - st = 1 ∧ zni key (B st) < 3 then fX4_writeAtom (fTC (20000 + zni key (B st))) c else fX4_blame c) := by
  have hT := hb.1
  have hst := (zTk_st tk).1
  obtain ⟨t1, t2, t3, t4, t5, t6, t7, t8, t9, _⟩ := tk
  have := t9 h0
  obtain ⟨e1, _, e3⟩ := hb.2.2.2 st (by omega)
  have hz := zni_le key (B st)
  unfold fX4_readName
  rw [zbd_s, zbd_s, t1, t2, pk_sub (by omega), show (1 : Int32) = nI 1 from rfl, zceq (by omega) (by omega)]
  by_cases e : en - st = 1
  · have nm : fX4_names c = some (3 + key, c) := by
      unfold fX4_names
      rw [zbd_s, h7]
      rcases (show key = 0 ∨ key = 1 ∨ key = 2 by omega) with rfl | rfl | rfl <;> rfl
    rw [if_pos e, nm, zbd2_s, decide_eq_true (show 3 + key < 6 by omega), zgrd_t, zbd_s, t1, zld (i := st) (by omega) (by omega), zbd_s, e1, c_index hk e3, zbd2_s]
    unfold fX4_readName_34 znv
    by_cases q : zni key (B st) = 3
    · rw [if_pos q, if_neg (show ¬ (0 : Int32) ≤ -1 by decide), zbd_id, if_neg (by omega)]
    · rw [if_neg q, if_pos (nI_pos' (by omega)), zbd_id, if_pos ⟨e, by omega⟩, zm3 _ (by omega)]
      unfold fTC
      rw [if_neg (by omega), if_neg (by omega), if_neg (by omega), Nat.add_sub_cancel_left]
  · unfold fX4_readName_34
    rw [if_neg e, if_neg (show ¬ (0 : Int32) ≤ -nI 1 by decide), zbd_id, if_neg (fun z => e z.1)]
theorem fTM_num {z : Nat} (h : z < 10000) : fTM (20 + z) = nI z ∧ fTC (20 + z) = nI z := by
  unfold fTM fTC
  rw [if_neg (by omega), if_neg (by omega), if_pos (by omega), if_neg (by omega), if_neg (by omega), if_pos (by omega), Nat.add_sub_cancel_left]
  exact ⟨rfl, rfl⟩
theorem fTM_name {p : Nat} (h : p < 3) : fTM (20000 + p) = 10000 + nI p := by
  unfold fTM
  rw [if_neg (by omega), if_neg (by omega), if_neg (by omega), Nat.add_sub_cancel_left]
  exact (nI_add 10000 p).symm
/-! the piece itself -/
theorem w_pieceW {c0 m0 c m : zz_W} {T key st en κ j br nt k : Nat} {B : Nat → Nat} {X S0 : List Nat} {bad : Prop} (hkey : key < 3) (hb0 : zBy c0 m0 T B) (h : zPs c0 m0 T B key c m st en κ bad X X (List.replicate j 9 ++ S0)) (hbad : ¬ bad) (hκ : κ = 1 ∨ κ = 2) (hS : zstop 6 S0) (hk : T - st < k + 1) :
    ∃ c1, (if κ = 2 then fX4_readNumber c else fX4_readName c) = some c1 ∧ (zFail c0 m0 c1 (fX8_takesE_28 (k + 1) (nI br) (nI nt) 1 m) ∨ zOkG c0 m0 T B key br j X S0 st m c1 (fX8_takesE_28 (k + 1) (nI br) (nI nt) 1 m)) := by
  have hT := hb0.1
  obtain ⟨tk, pc, pm, ⟨x1, x2, x3⟩, ⟨y1, y2, y3⟩, ⟨s1, s2, s3⟩, l1, l2, l3⟩ := id h
  have hb := zBy_P hb0 pc pm
  have hst := (zTk_st tk).1
  obtain ⟨t1, t2, t3, t4, t5, t6, t7, t8, t9, t10, t11, t12, t13, t14, t15⟩ := id tk
  have hlt := t9 (by omega)
  obtain ⟨_, _, e3⟩ := hb.2.2.2 st (by omega)
  have t11' : zgI m 0 11 = (if κ = 2 ∧ 4 < en - st then 4 else nI κ) := by
    rcases t15 with ⟨q, _⟩ | ⟨_, _, q⟩
    · exact absurd q hbad
    · exact q
  have fin : ∀ t, zok1 key t → 9 < t → fX8_takesE_28 (k + 1) (nI br) (nI nt) 1 m = zbd2 (fX8_takesPart_87 (nI X.length) (fTM t) m) (fun x104 w105 => if x104 = 0 then some (0, w105) else fX8_takesE_172 (fX8_takesE_28 k) (nI br) 0 w105) →
      ∃ c1, fX4_writeAtom (fTC t) c = some c1 ∧ (zFail c0 m0 c1 (fX8_takesE_28 (k + 1) (nI br) (nI nt) 1 m) ∨ zOkG c0 m0 T B key br j X S0 st m c1 (fX8_takesE_28 (k + 1) (nI br) (nI nt) 1 m)) := by
    intro t ht h9 hR
    obtain ⟨c1, m1, st1, en1, κ1, bad1, r1, r2, r3, r4, r5⟩ := w_atom hb0 h hbad (by omega) hS t
    have := (zTk_st r3.1).1
    refine ⟨c1, r1, ?_⟩
    rw [hR, r2, zbd2_s, if_neg z10, w_172 hb0 r3]
    exact w_after hb0 r3 (zWF_atom ht h9) r4 (fun b _ => r5 b) rfl (by omega)
  by_cases e2 : κ = 2
  · rw [if_pos e2]
    unfold fX4_readNumber
    rw [zbd_s, zbd_s, t1, t2, pk_sub (by omega), show (4 : Int32) = nI 4 from rfl, zcle (by omega) (by omega)]
    by_cases q : en - st ≤ 4
    · have hf := zfuel_big
      obtain ⟨v1, v2⟩ := t14 e2
      rw [if_pos q, zbd_s, show fX4_readNumber_25 zfuel 0 (nI st) c = _ from c_num hb t8 t2 q v2 (en - st) 0 zfuel (by omega) (by omega)]
      have lt := zdg_lt4 (B := B) (st := st) (k := en - st) (by omega) (fun i hi => zkd_2 (v2 (st + i) (by omega) (by omega)))
      obtain ⟨f1, f2⟩ := fTM_num lt
      rw [← f2]
      refine fin _ (Or.inr (Or.inl ⟨by omega, by omega⟩)) (by omega) ?_
      rw [if_neg (by omega), e2] at t11'
      rw [show min (en - st) 4 = en - st by omega] at v1
      rw [r1_part (Or.inl (by rw [t11']; decide))]
      unfold fX8_takesE_158 fX8_takesPart fX8_takesPart_36 fX8_takesPart_37 fX8_takesPart_52
      rw [zbd_s, t11', if_neg (show ¬ nI 2 = 1 by decide), zbd_s, if_pos (show nI 2 = 2 from rfl), zbd_s, y1, zbd_s, if_pos (show nI 2 = 2 from rfl), zbd_s, v1, f1]
    · rw [if_neg q, zbd_id]
      rw [if_pos ⟨e2, by omega⟩] at t11'
      obtain ⟨w1, w2⟩ := (w_fail hb0 h (r1_no (k := k) (l1 := nI br) (l2 := nI nt) (Or.inl (by rw [t11']; decide)) (by rw [t11']; decide) (by rw [t11']; decide))).2 hbad
      exact ⟨_, w1, Or.inl w2⟩
  · have e1 : κ = 1 := by omega
    rw [if_neg e2, c_readName hb tk (by omega) hkey x3]
    rw [if_neg (by omega), e1] at t11'
    have v1 := t13 (Or.inl e1)
    have hz := zni_le key (B st)
    have nm := m_nameOf (m := m) hkey e3 y3
    have hR : fX8_takesE_28 (k + 1) (nI br) (nI nt) 1 m = fX8_takesE_158 (fX8_takesE_28 k) (nI br) m := r1_part (Or.inl (by rw [t11']; decide))
    by_cases q : en - st = 1 ∧ zni key (B st) < 3
    · rw [if_pos q]
      refine fin _ (Or.inr (Or.inr ⟨by omega, by omega, ?_⟩)) (by omega) ?_
      · by_cases z : zni key (B st) = 2
        · exact Or.inr (zni_2 z)
        · exact Or.inl (by omega)
      · rw [hR]
        unfold fX8_takesE_158 fX8_takesPart fX8_takesPart_37 fX8_takesPart_52
        rw [zbd_s, t11', if_pos (show nI 1 = 1 from rfl), zbd_s, zbd_s, t4, t5, pk_sub (by omega), q.1, if_pos (show nI 1 = 1 from rfl), zbd_s, v1, nm, zbd2_s, show znv (zni key (B st)) = nI (zni key (B st)) from if_neg (by omega), if_neg (nI_pos (by omega)), zbd_s, t11', if_neg (show ¬ nI 1 = 2 by decide), if_neg z10, zbd_s, y1, zbd_s, if_neg (show ¬ nI 1 = 2 by decide), zbd_s, v1, nm, zbd2_s, show znv (zni key (B st)) = nI (zni key (B st)) from if_neg (by omega), fTM_name q.2]
    · rw [if_neg q]
      have hno : fX8_takesE_28 (k + 1) (nI br) (nI nt) 1 m = some (0, m) := by
        rw [hR]
        unfold fX8_takesE_158 fX8_takesPart fX8_takesPart_36 fX8_takesPart_37
        rw [zbd_s, t11', if_pos (show nI 1 = 1 from rfl), zbd_s, zbd_s, t4, t5, pk_sub (by omega), show (1 : Int32) = nI 1 from rfl, zceq (by omega) (by omega), zbd_s, v1, nm, zbd2_s, zbd_s, t11', if_neg (show ¬ nI 1 = 2 by decide)]
        by_cases z : en - st = 1
        · have z3 : zni key (B st) = 3 := by omega
          rw [if_pos z, z3, if_pos (show znv 3 < 0 by decide), if_pos rfl, zbd2_s, if_pos rfl]
        · rw [if_neg z, zbd_s, if_neg (show ¬ nI 1 = 2 by decide), if_pos rfl, zbd2_s, if_pos rfl]
      obtain ⟨w1, w2⟩ := (w_fail hb0 h hno).2 hbad
      exact ⟨_, w1, Or.inl w2⟩
