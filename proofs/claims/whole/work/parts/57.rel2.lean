/-! ===== the whole relation ===== -/
/-- a token of a law: number, name, not, sign of two; how deep before and after -/
def zsgC : Nat → Int32
  | 0 => -124 | 1 => -38 | 2 => -60 | 3 => -61 | 4 => -62 | 5 => -43 | 6 => -45 | 7 => -42 | _ => -47
def zsgM : Nat → Int32
  | 0 => -1 | 1 => -2 | 2 => -3 | 3 => -4 | 4 => -5 | 5 => -6 | 6 => -7 | 7 => -8 | _ => -9
def zTok (key : Nat) (x y : Int32) (u v : Nat) : Prop :=
  (∃ z, z < 10000 ∧ x = nI z ∧ y = nI z ∧ v = u + 1) ∨ (∃ p, p < 3 ∧ (p < 2 ∨ key = 0) ∧ x = nI p - 3 ∧ y = nI (10000 + p) ∧ v = u + 1) ∨
  (x = -33 ∧ y = -10 ∧ 1 ≤ u ∧ v = u) ∨ (∃ k, k < 9 ∧ x = zsgC k ∧ y = zsgM k ∧ 2 ≤ u ∧ v + 1 = u)
/-- Text q of the component is law t of the reference's row -/
def zLaw (c : zz_W) (q : Nat) (m : zz_W) (t key : Nat) : Prop := ∃ (len : Nat) (dep : Nat → Nat), key < 3 ∧ 1 ≤ len ∧ len ≤ 95 ∧ c.2.2.2.2 q = len ∧ zgI c q 0 = nI key ∧ zgI m 1 (64 + 2 * t) = nI (1000 * key + len) ∧
  zgI c q 1 = zgI m 1 (65 + 2 * t) ∧ dep 0 = 0 ∧ dep len = 1 ∧ (∀ j, j < len → dep j ≤ j ∧ zTok key (zgI c (q + 1) j) (zgI m 1 (92 + 96 * t + j)) (dep j) (dep (j + 1)))
theorem zLaw_keep {c m c1 m1 : zz_W} {q t key : Nat} (h : zLaw c q m t key) (ht : t < 14) (e : c1.2.2.2 = c.2.2.2) (e0 : ∀ i, zgI c1 q i = zgI c q i) (e1 : ∀ i, zgI c1 (q + 1) i = zgI c (q + 1) i) (em : ∀ i, 64 ≤ i → i < 1436 → zgI m1 1 i = zgI m 1 i) : zLaw c1 q m1 t key := by
  obtain ⟨len, dep, a1, a2, a3, a4, a5, a6, a7, a8, a9, a10⟩ := h
  refine ⟨len, dep, a1, a2, a3, by rw [e]; exact a4, by rw [e0]; exact a5, by rw [em _ (by omega) (by omega)]; exact a6, by rw [e0, em _ (by omega) (by omega)]; exact a7, a8, a9, fun j hj => ?_⟩
  rw [e1, em _ (by omega) (by omega)]
  exact a10 j hj
/-- the laws of a Wall -/
def zTx (b : Nat) (c m : zz_W) : Prop := ∃ (t : Nat) (key : Nat → Nat), t ≤ 14 ∧ zgI c b 15 = nI t ∧ zgI m 1 13 = nI t ∧ zokR c (b + 8) 0 14 = true ∧
  (∀ i, i < t → ∃ q, zgR c (b + 8) i = some q ∧ zisT c.2.2.2 q = true ∧ zLaw c q m i (key i)) ∧
  (∀ k, k < 3 → (zgI c (b + 9) k = -1 ∧ ∀ i, i < t → ¬ key i = k) ∨ (∃ i, i < t ∧ zgI c (b + 9) k = nI i ∧ key i = k ∧ ∀ i', i < i' → i' < t → ¬ key i' = k))
theorem zokR_keep {c c1 : zz_W} {k k' : Nat} (h : zokR c k 0 14 = true) (e : c1.2.2.2 = c.2.2.2) (eR : ∀ i, i < 14 → zgR c1 k' i = zgR c k i) : zokR c1 k' 0 14 = true := by
  unfold zokR
  rw [List.all_eq_true]
  intro i hi
  have hi' := List.mem_range.mp hi
  have h1 := List.all_eq_true.mp h i hi
  rw [Nat.zero_add] at h1 ⊢
  rw [eR i hi', e]
  exact h1
theorem zTx_move {b b' : Nat} {c m c1 m1 : zz_W} (h : zTx b c m) (e : c1.2.2.2 = c.2.2.2) (e15 : zgI c1 b' 15 = zgI c b 15) (e9 : ∀ i, i < 3 → zgI c1 (b' + 9) i = zgI c (b + 9) i) (eR : ∀ i, i < 14 → zgR c1 (b' + 8) i = zgR c (b + 8) i)
    (eT : ∀ a i, 65 ≤ a → ¬ (a - 65) % 3 = 2 → zgI c1 a i = zgI c a i) (em : ∀ i, 64 ≤ i → i < 1436 → zgI m1 1 i = zgI m 1 i) (e13 : zgI m1 1 13 = zgI m 1 13) : zTx b' c1 m1 := by
  obtain ⟨t, key, a1, a2, a3, a4, a5, a6⟩ := h
  refine ⟨t, key, a1, by rw [e15]; exact a2, by rw [e13]; exact a3, zokR_keep a4 e eR, fun i hi => ?_, fun k hk => ?_⟩
  · obtain ⟨q, b1, b2, b3⟩ := a5 i hi
    have hq := of_decide_eq_true b2
    exact ⟨q, by rw [eR i (by omega)]; exact b1, by rw [e]; exact b2, zLaw_keep b3 (by omega) e (fun j => eT q j (by omega) (by omega)) (fun j => eT (q + 1) j (by omega) (by omega)) em⟩
  · rw [e9 k hk]
    exact a6 k hk
def zIm (m : zz_W) : zz_W := (fun a i => if a = 1 then m.1 2 i else m.1 a i, m.2)
theorem zIm_1 (m : zz_W) (i : Nat) : zgI (zIm m) 1 i = zgI m 2 i := rfl
/-- a Wall as a method finds it -/
def zAll (b : Nat) (c m : zz_W) : Prop := ∃ n, zWal b n c m c m ∧ zPos n m ∧ (∃ s, s ≤ 9999 ∧ zgI m 1 2 = nI s) ∧ zTx b c m
/-- what a run of kind k, depth d is worth -/
def zwo (k d : Int32) : Int32 := if k = 1 then d + 9 else if k = 2 then 99 - d else if k = 3 then 2 * (d + 9) else if k = 4 then 94 - d else if k = 5 then 2 else d
def zImg (c m : zz_W) : Prop := zgI c 0 8 = zgI m 0 3 ∧ (zgI m 0 3 = 0 ∨ (zgI m 0 3 = 1 ∧ zAll 11 c (zIm m)))
def zTape (c m : zz_W) : Prop := ∃ T, T ≤ 96 ∧ zgI c 36 0 = nI T ∧ zgI m 0 8 = nI T ∧ ∀ j, j < T → zgI c 37 j = zgI m 7 j ∧ ∃ x, x < 256 ∧ zgI m 7 j = nI x
def zSheets (c m : zz_W) : Prop := ∀ i, i < 4 → zgI c (42 + 2 * i) 1 = zgI m 15 i ∧ (zgI m 15 i = -1 ∨ zgI m 15 i = 0 ∨ zgI m 15 i = 1) ∧ zgI c (42 + 2 * i) 2 = zgI m 16 i ∧ (∃ s, s ≤ 24 ∧ zgI m 16 i = nI s) ∧ ∀ j, j < 24 → zgI c (43 + 2 * i) j = zgI m 17 (24 * i + j)
def zSlots (c m : zz_W) : Prop := ∀ i, i < 5 → zgI c (50 + 3 * i) 1 = zgI m 18 i ∧ (zgI m 18 i = 0 ∨
    (zgI m 18 i = 1 ∧ zgI c (50 + 3 * i) 2 = zgI m 19 i ∧ zgI m 20 i = zwo (zgI m 19 i) (zgI c (50 + 3 * i) 3) ∧ ∃ k, k < 6 ∧ zgI m 19 i = nI k) ∨
    (zgI m 18 i = 2 ∧ zgI c (51 + 3 * i) 2 = zgI m 19 i ∧ (∃ s, s ≤ 24 ∧ zgI m 19 i = nI s) ∧ ∀ j, j < 24 → zgI c (52 + 3 * i) j = zgI m 21 (24 * i + j)) ∨
    (zgI m 18 i = 3 ∧ zgI c (50 + 3 * i) 4 = zgI m 19 i))
def zWaits (c m : zz_W) : Prop := ∃ w, w ≤ 60 ∧ zgI c 0 9 = nI w ∧ zgI m 0 34 = nI w ∧ ∀ j, j < w → zgI c 41 j = zgI m 23 j
/-- the rows of laws of the image and of the thought hold TEXTS that are there -/
def zok2 (c : zz_W) : Prop := zokR c 19 0 14 = true ∧ zokR c 29 0 14 = true
theorem zok2_R {c c1 : zz_W} (h : zok2 c) (e : c1.2.2 = c.2.2) : zok2 c1 := ⟨zokR_keep h.1 (congrArg Prod.snd e) (fun i _ => congrFun (congrFun (congrArg Prod.fst e) 19) i), zokR_keep h.2 (congrArg Prod.snd e) (fun i _ => congrFun (congrFun (congrArg Prod.fst e) 29) i)⟩
theorem zok2_k {c c1 : zz_W} (h : zok2 c) (e : c1.2.2.2 = c.2.2.2) (e1 : ∀ i, zgR c1 19 i = zgR c 19 i) (e2 : ∀ i, zgR c1 29 i = zgR c 29 i) : zok2 c1 := ⟨zokR_keep h.1 e (fun i _ => e1 i), zokR_keep h.2 e (fun i _ => e2 i)⟩
def zKeys (c m : zz_W) : Prop := ((∀ i, i < 11 → zgI m 8 i = zgI zm0 8 i) ∧ (∀ i, i < 4 → zgI m 9 i = zgI zm0 9 i)) ∧ zok2 c
def zRest (c m : zz_W) : Prop := zImg c m ∧ zTape c m ∧ zSheets c m ∧ zSlots c m ∧ zWaits c m ∧ zKeys c m
def zRel (c m : zz_W) : Prop := zAll 1 c m ∧ zRest c m
/-- what of the component's world the rest speaks of -/
def zKc (c c1 : zz_W) : Prop := (∀ a i, (a = 0 ∧ (i = 8 ∨ i = 9)) ∨ (11 ≤ a ∧ a < 21) ∨ (a = 36 ∧ i = 0) ∨ a = 37 ∨ (41 ≤ a ∧ a < 65) ∨ (65 ≤ a ∧ ¬ (a - 65) % 3 = 2) → zgI c1 a i = zgI c a i) ∧
  (∀ i, zgL c1 17 i = zgL c 17 i) ∧ (∀ i, zgR c1 19 i = zgR c 19 i) ∧ c1.2.2.2 = c.2.2.2
def zKm (m m1 : zz_W) : Prop := ∀ a i, (a = 0 ∧ (i = 3 ∨ i = 8 ∨ i = 34)) ∨ a = 2 ∨ (7 ≤ a ∧ a ≤ 9) ∨ (15 ≤ a ∧ a ≤ 21) ∨ a = 23 → zgI m1 a i = zgI m a i
theorem zAll_move {b b' : Nat} {c m c1 m1 : zz_W} (h : zAll b c m) (W : zisW b' = true) (e0 : ∀ i, 9 ≤ i → i ≤ 15 → zgI c1 b' i = zgI c b i)
    (e1 : ∀ i, i < 10 → zgI c1 (b' + 1) i = zgI c (b + 1) i) (e2 : ∀ i, i < 10 → zgI c1 (b' + 2) i = zgI c (b + 2) i) (e3 : ∀ i, i < 10 → zgI c1 (b' + 3) i = zgI c (b + 3) i) (e4 : ∀ i, i < 10 → zgI c1 (b' + 4) i = zgI c (b + 4) i) (e5 : ∀ i, i < 10 → zgI c1 (b' + 5) i = zgI c (b + 5) i)
    (e6 : ∀ i, i < 10 → zgL c1 (b' + 6) i = zgL c (b + 6) i) (e7 : ∀ i, i < 7 → zgI c1 (b' + 7) i = zgI c (b + 7) i) (e8 : ∀ i, i < 14 → zgR c1 (b' + 8) i = zgR c (b + 8) i) (e9 : ∀ i, i < 3 → zgI c1 (b' + 9) i = zgI c (b + 9) i)
    (e : c1.2.2.2 = c.2.2.2) (eT : ∀ a i, 65 ≤ a → ¬ (a - 65) % 3 = 2 → zgI c1 a i = zgI c a i) (em : ∀ i, i < 1436 → zgI m1 1 i = zgI m 1 i) : zAll b' c1 m1 := by
  obtain ⟨n, h1, h2, ⟨s, hs, e2'⟩, h3⟩ := h
  refine ⟨n, zWal_move h1 W (fun i a b => e0 i a (by omega)) e1 e2 e3 e4 e5 e6 e7 (fun i _ => em i (by omega)), zPos_of h2 (fun r hr => em _ (by have := h1.hn; omega)), ⟨s, hs, by rw [em 2 (by omega)]; exact e2'⟩, zTx_move h3 e (e0 15 (by decide) (by decide)) e9 e8 eT (fun i _ hi => em i hi) (em 13 (by omega))⟩
theorem zImg_keep {c m c1 m1 : zz_W} (h : zImg c m) (e0 : zgI c1 0 8 = zgI c 0 8) (k1 : ∀ a i, (11 ≤ a ∧ a < 21) ∨ (65 ≤ a ∧ ¬ (a - 65) % 3 = 2) → zgI c1 a i = zgI c a i) (k2 : ∀ i, zgL c1 17 i = zgL c 17 i) (k3 : ∀ i, zgR c1 19 i = zgR c 19 i) (k4 : c1.2.2.2 = c.2.2.2)
    (f0 : zgI m1 0 3 = zgI m 0 3) (f2 : ∀ i, zgI m1 2 i = zgI m 2 i) : zImg c1 m1 := by
  obtain ⟨a1, a2⟩ := h
  refine ⟨by rw [e0, f0]; exact a1, ?_⟩
  rw [f0]
  rcases a2 with a2 | ⟨a2, a2'⟩
  · exact Or.inl a2
  · refine Or.inr ⟨a2, zAll_move a2' (by decide) (fun i _ _ => k1 _ _ (by omega)) (fun i _ => k1 _ _ (by omega)) (fun i _ => k1 _ _ (by omega)) (fun i _ => k1 _ _ (by omega)) (fun i _ => k1 _ _ (by omega)) (fun i _ => k1 _ _ (by omega)) (fun i _ => k2 i) (fun i _ => k1 _ _ (by omega)) (fun i _ => k3 i) (fun i _ => k1 _ _ (by omega)) k4 (fun a i h1 h2 => k1 _ _ (by omega)) (fun i _ => ?_)⟩
    rw [zIm_1, zIm_1]
    exact f2 i
theorem zTape_keep {c m c1 m1 : zz_W} (h : zTape c m) (e0 : zgI c1 36 0 = zgI c 36 0) (e1 : ∀ i, zgI c1 37 i = zgI c 37 i) (f0 : zgI m1 0 8 = zgI m 0 8) (f1 : ∀ i, zgI m1 7 i = zgI m 7 i) : zTape c1 m1 := by
  obtain ⟨T, b1, b2, b3, b4⟩ := h
  refine ⟨T, b1, by rw [e0]; exact b2, by rw [f0]; exact b3, fun j hj => ?_⟩
  rw [e1, f1]
  exact b4 j hj
theorem zSheets_keep {c m c1 m1 : zz_W} (h : zSheets c m) (k1 : ∀ a i, 42 ≤ a → a < 50 → zgI c1 a i = zgI c a i) (km : ∀ a i, 15 ≤ a → a ≤ 17 → zgI m1 a i = zgI m a i) : zSheets c1 m1 := by
  intro i hi
  rw [k1 (42 + 2 * i) 1 (by omega) (by omega), k1 (42 + 2 * i) 2 (by omega) (by omega), km 15 i (by omega) (by omega), km 16 i (by omega) (by omega)]
  obtain ⟨b1, b2, b3, b4, b5⟩ := h i hi
  exact ⟨b1, b2, b3, b4, fun j hj => by rw [k1 (43 + 2 * i) j (by omega) (by omega), km 17 _ (by omega) (by omega)]; exact b5 j hj⟩
theorem zSlots_keep {c m c1 m1 : zz_W} (h : zSlots c m) (k1 : ∀ a i, 50 ≤ a → a < 65 → zgI c1 a i = zgI c a i) (km : ∀ a i, 18 ≤ a → a ≤ 21 → zgI m1 a i = zgI m a i) : zSlots c1 m1 := by
  intro i hi
  rw [k1 (50 + 3 * i) 1 (by omega) (by omega), k1 (50 + 3 * i) 2 (by omega) (by omega), k1 (50 + 3 * i) 3 (by omega) (by omega), k1 (50 + 3 * i) 4 (by omega) (by omega), k1 (51 + 3 * i) 2 (by omega) (by omega), km 18 i (by omega) (by omega), km 19 i (by omega) (by omega), km 20 i (by omega) (by omega)]
  obtain ⟨b1, b2⟩ := h i hi
  refine ⟨b1, ?_⟩
  rcases b2 with b2 | b2 | ⟨b2, b3, b4, b5⟩ | b2
  · exact Or.inl b2
  · exact Or.inr (Or.inl b2)
  · exact Or.inr (Or.inr (Or.inl ⟨b2, b3, b4, fun j hj => by rw [k1 (52 + 3 * i) j (by omega) (by omega), km 21 _ (by omega) (by omega)]; exact b5 j hj⟩))
  · exact Or.inr (Or.inr (Or.inr b2))
theorem zWaits_keep {c m c1 m1 : zz_W} (h : zWaits c m) (e0 : zgI c1 0 9 = zgI c 0 9) (e1 : ∀ i, zgI c1 41 i = zgI c 41 i) (f0 : zgI m1 0 34 = zgI m 0 34) (f1 : ∀ i, zgI m1 23 i = zgI m 23 i) : zWaits c1 m1 := by
  obtain ⟨w, b1, b2, b3, b4⟩ := h
  exact ⟨w, b1, by rw [e0]; exact b2, by rw [f0]; exact b3, fun j hj => by rw [e1, f1]; exact b4 j hj⟩
theorem zKeys_keep {c m c1 m1 : zz_W} (h : zKeys c m) (f : ∀ a i, 8 ≤ a → a ≤ 9 → zgI m1 a i = zgI m a i) (g : zok2 c → zok2 c1 := by exact id) : zKeys c1 m1 :=
  ⟨⟨fun i hi => by rw [f 8 i (by omega) (by omega)]; exact h.1.1 i hi, fun i hi => by rw [f 9 i (by omega) (by omega)]; exact h.1.2 i hi⟩, g h.2⟩
theorem zAll_keep {c m c1 m1 : zz_W} (h : zAll 1 c m) (k1 : ∀ a i, (1 ≤ a ∧ a < 11) ∨ (65 ≤ a ∧ ¬ (a - 65) % 3 = 2) → zgI c1 a i = zgI c a i) (k2 : ∀ i, zgL c1 7 i = zgL c 7 i) (k3 : ∀ i, zgR c1 9 i = zgR c 9 i) (k4 : c1.2.2.2 = c.2.2.2) (f : ∀ i, zgI m1 1 i = zgI m 1 i) : zAll 1 c1 m1 :=
  zAll_move h (by decide) (fun i _ _ => k1 _ _ (by omega)) (fun i _ => k1 _ _ (by omega)) (fun i _ => k1 _ _ (by omega)) (fun i _ => k1 _ _ (by omega)) (fun i _ => k1 _ _ (by omega)) (fun i _ => k1 _ _ (by omega)) (fun i _ => k2 i) (fun i _ => k1 _ _ (by omega)) (fun i _ => k3 i) (fun i _ => k1 _ _ (by omega)) k4 (fun a i h1 h2 => k1 _ _ (by omega)) (fun i _ => f i)
theorem zRest_keep {c m c1 m1 : zz_W} (h : zRest c m) (kc : zKc c c1) (km : zKm m m1) (g : zok2 c → zok2 c1 := by exact id) : zRest c1 m1 := by
  obtain ⟨a1, a2, a3, a4, a5, a6⟩ := h
  obtain ⟨k1, k2, k3, k4⟩ := kc
  exact ⟨zImg_keep a1 (k1 _ _ (by omega)) (fun a i h => k1 a i (by omega)) k2 k3 k4 (km _ _ (by omega)) (fun i => km _ _ (by omega)),
    zTape_keep a2 (k1 _ _ (by omega)) (fun i => k1 _ _ (by omega)) (km _ _ (by omega)) (fun i => km _ _ (by omega)),
    zSheets_keep a3 (fun a i _ _ => k1 _ _ (by omega)) (fun a i _ _ => km _ _ (by omega)),
    zSlots_keep a4 (fun a i _ _ => k1 _ _ (by omega)) (fun a i _ _ => km _ _ (by omega)),
    zWaits_keep a5 (k1 _ _ (by omega)) (fun i => k1 _ _ (by omega)) (km _ _ (by omega)) (fun i => km _ _ (by omega)),
    zKeys_keep a6 (fun a i _ _ => km _ _ (by omega)) g⟩
/-- scratch: all that the relation speaks of is as it was -/
theorem zRel_scr {c m c1 m1 : zz_W} (h : zRel c m) (kc : zKc c c1) (e1 : ∀ a i, 1 ≤ a → a < 11 → zgI c1 a i = zgI c a i) (e2 : ∀ i, zgL c1 7 i = zgL c 7 i) (e3 : ∀ i, zgR c1 9 i = zgR c 9 i) (km : zKm m m1) (f1 : ∀ i, zgI m1 1 i = zgI m 1 i) (g : zok2 c → zok2 c1 := by exact id) : zRel c1 m1 :=
  ⟨zAll_keep h.1 (fun a i ha => by rcases ha with ha | ha; exact e1 a i ha.1 ha.2; exact kc.1 a i (by omega)) e2 e3 kc.2.2.2 f1, zRest_keep h.2 kc km g⟩
/-- a method that worked on the Wall alone -/
theorem zRel_wall {c m c1 m1 : zz_W} {n : Nat} (h : zRel c m) (h1 : zWal 1 n c1 m1 c1 m1) (hf : zFr 1 c m c1 m1) (h2 : zPos n m1) (h3 : ∃ s, s ≤ 9999 ∧ zgI m1 1 2 = nI s) : zRel c1 m1 := by
  obtain ⟨⟨n0, _, _, _, tx⟩, hr⟩ := h
  obtain ⟨f1, f2, f3, f4, f5, f6⟩ := hf
  have fR : ∀ a i, zgR c1 a i = zgR c a i := fun a i => congrFun (congrFun (congrArg Prod.fst f4) a) i
  have fG : c1.2.2.2 = c.2.2.2 := congrArg Prod.snd f4
  refine ⟨⟨n, h1, h2, h3,
    zTx_move tx fG f2 (fun i _ => f1 _ _ (by omega)) (fun i _ => fR _ _) (fun a i _ _ => f1 _ _ (by omega)) (fun i hi _ => f5 _ _ (by omega)) (f5 _ _ (by omega))⟩, ?_⟩
  exact zRest_keep hr ⟨fun a i ha => f1 a i (by omega), fun i => f3 17 i (by omega), fun i => fR _ _, fG⟩ (fun a i ha => f5 a i (by omega)) (fun q => zok2_R q f4)
theorem zWal_self {b n : Nat} {c0 m0 c m : zz_W} (h : zWal b n c0 m0 c m) : zWal b n c m c m :=
  zWal_move h h.W (fun _ _ _ => rfl) (fun _ _ => rfl) (fun _ _ => rfl) (fun _ _ => rfl) (fun _ _ => rfl) (fun _ _ => rfl) (fun _ _ => rfl) (fun _ _ => rfl) (fun _ _ => rfl)
/-- the same, step kept -/
theorem zRel_wal {c m c1 m1 : zz_W} {n : Nat} (h : zRel c m) (h1 : zWal 1 n c m c1 m1) (h2 : zPos n m1) : zRel c1 m1 := by
  obtain ⟨_, _, _, ⟨s, hs, e⟩, _⟩ := h.1
  exact zRel_wall h (zWal_self h1) (zFr_of h1) h2 ⟨s, hs, by rw [h1.fm 1 2 (by omega)]; exact e⟩

