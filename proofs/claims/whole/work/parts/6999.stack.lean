/-! ===== text: rows of tokens, the stack of the reference ===== -/
def zsgB : Nat → Nat
  | 0 => 124 | 1 => 38 | 2 => 60 | 3 => 61 | 4 => 62 | 5 => 43 | 6 => 45 | 7 => 42 | _ => 47
def fTC (t : Nat) : Int32 := if t < 9 then zsgC t else if t = 9 then -33 else if t < 15000 then nI (t - 20) else nI (t - 20000) - 3
def fTM (t : Nat) : Int32 := if t < 9 then zsgM t else if t = 9 then -10 else if t < 15000 then nI (t - 20) else nI (10000 + (t - 20000))
def fTS (t : Nat) : Int32 := if t < 9 then zsgM t else if t = 9 then -10 else -11
def zrk2 (t : Nat) : Nat := if t = 0 then 1 else if t = 1 then 2 else if t < 5 then 3 else if t < 7 then 4 else if t < 9 then 5 else 6
theorem fTS_M : ∀ t, t ≤ 9 → fTM t = fTS t := by decide
theorem fTS_open : ∀ t, t ≤ 9 → ¬ fTS t = -11 := by decide
theorem fTS_not : ∀ t, t ≤ 10 → (fTS t = -10 ↔ t = 9) := by decide
def zAr (w : zz_W) (pl : Nat) (f : Nat → Int32) (X : List Nat) : Prop := ∀ j a, X[j]? = some a → zgI w pl j = f a
theorem zAr_nil (w : zz_W) (pl : Nat) (f : Nat → Int32) : zAr w pl f [] := fun j a h => by cases h
theorem zAr_keep {w w1 : zz_W} {pl : Nat} {f : Nat → Int32} {X : List Nat} (h : zAr w pl f X) (e : ∀ i, i < X.length → zgI w1 pl i = zgI w pl i) : zAr w1 pl f X := by
  intro j a ha
  obtain ⟨hj, _⟩ := List.getElem?_eq_some_iff.mp ha
  rw [e j hj]
  exact h j a ha
theorem zAr_push {w : zz_W} {pl : Nat} {f : Nat → Int32} {X : List Nat} (h : zAr w pl f X) {a : Nat} {v : Int32} (e : v = f a) : zAr (zsI w pl X.length v) pl f (X ++ [a]) := by
  intro j b hb
  rw [zgI_sI]
  by_cases q : j < X.length
  · rw [List.getElem?_append_left q] at hb
    rw [if_neg (by omega)]
    exact h j b hb
  · rw [List.getElem?_append_right (by omega)] at hb
    obtain ⟨hj, _⟩ := List.getElem?_eq_some_iff.mp hb
    have hj' : j - X.length < 1 := hj
    have : j = X.length := by omega
    subst this
    rw [Nat.sub_self] at hb
    have : a = b := Option.some.inj hb
    rw [if_pos ⟨rfl, rfl⟩, e, this]
def zStk (w : zz_W) : List Nat → Prop
  | [] => True
  | a :: S => zgI w 11 S.length = fTS a ∧ zStk w S
theorem zStk_keep {w w1 : zz_W} : ∀ {S : List Nat}, zStk w S → (∀ i, i < S.length → zgI w1 11 i = zgI w 11 i) → zStk w1 S
  | [], _, _ => trivial
  | a :: S, h, e => ⟨by rw [e S.length (by simp)]; exact h.1, zStk_keep h.2 (fun i hi => e i (by simp; omega))⟩
theorem zStk_push {w : zz_W} {S : List Nat} (h : zStk w S) {a : Nat} {v : Int32} (e : v = fTS a) : zStk (zsI w 11 S.length v) (a :: S) :=
  ⟨by rw [zgI_sI, if_pos ⟨rfl, rfl⟩, e], zStk_keep h (fun i hi => by rw [zgI_sI, if_neg (by omega)])⟩
theorem m_rank {t : Nat} (h : t ≤ 9) (w : zz_W) : fX8_rank (fTS t) w = some (nI (zrk2 t), w) := by
  rcases (show t = 0 ∨ t = 1 ∨ t = 2 ∨ t = 3 ∨ t = 4 ∨ t = 5 ∨ t = 6 ∨ t = 7 ∨ t = 8 ∨ t = 9 by omega) with rfl | rfl | rfl | rfl | rfl | rfl | rfl | rfl | rfl | rfl <;> rfl
theorem zrk2_le (t : Nat) : zrk2 t ≤ 6 := by
  unfold zrk2
  (repeat' split) <;> omega
def zstop (lo : Nat) : List Nat → Prop
  | [] => True
  | a :: _ => a = 10 ∨ (a ≤ 9 ∧ zrk2 a < lo)
theorem m_settle0 (p : Int32) {lo : Nat} (hlo : lo ≤ 6) {S : List Nat} (hS : zstop lo S) : ∀ (D : List Nat) (k : Nat) (m : zz_W) (Y : List Nat), (∀ t ∈ D, t ≤ 9 ∧ lo ≤ zrk2 t) → D.length < k → Y.length + (D.length + S.length) ≤ 96 → zStk m (D ++ S) → zgI m 0 21 = nI (D.length + S.length) → zgI m 0 18 = nI Y.length → zAr m 10 fTM Y →
    ∃ m1, fX8_settle_0 p k (nI lo) m = some m1 ∧ zStk m1 S ∧ zgI m1 0 21 = nI S.length ∧ zgI m1 0 18 = nI (Y ++ D).length ∧ zAr m1 10 fTM (Y ++ D) ∧ (∀ a i, ¬ (a = 0 ∧ (i = 18 ∨ i = 21)) → ¬ a = 10 → zgI m1 a i = zgI m a i) := by
  intro D
  induction D with
  | nil =>
    intro k m Y hD hk hl hs h21 h18 hY
    obtain ⟨k, rfl⟩ : ∃ x, k = x + 1 := ⟨k - 1, by have : ([] : List Nat).length = 0 := rfl; omega⟩
    rw [show ([] : List Nat).length + S.length = S.length by simp] at h21 hl
    refine ⟨m, ?_, hs, h21, by rw [List.append_nil]; exact h18, by rw [List.append_nil]; exact hY, fun _ _ _ _ => rfl⟩
    rw [fX8_settle_0, zbd_s, h21]
    cases S with
    | nil => rw [if_pos (show nI ([] : List Nat).length ≤ 0 by decide)]
    | cons a S =>
      have hl' : (a :: S).length = S.length + 1 := rfl
      rw [hl'] at h21 hl ⊢
      have he : zgI m 11 S.length = fTS a := hs.1
      rw [if_neg (nI_nle (by omega) (by omega)), zbd_s, show nI (S.length + 1) - 1 = nI S.length from nI_pred _, zld (i := S.length) (by omega) (by omega), zbd_s, he]
      rcases hS with rfl | ⟨h9, hr⟩
      · rw [show fTS 10 = -11 from rfl, if_pos rfl]
      · rw [if_neg (fTS_open a h9), zbd_s, show nI (S.length + 1) - 1 = nI S.length from nI_pred _, zld (i := S.length) (by omega) (by omega), zbd_s, he, m_rank h9, zbd2_s, if_pos (nI_lt hr (by omega))]
  | cons a D ih =>
    intro k m Y hD hk hl hs h21 h18 hY
    have hl' : (a :: D).length = D.length + 1 := rfl
    rw [hl'] at hk hl h21
    obtain ⟨k, rfl⟩ : ∃ x, k = x + 1 := ⟨k - 1, by omega⟩
    obtain ⟨h9, hr⟩ := hD a (List.mem_cons_self ..)
    have hs' : zgI m 11 (D ++ S).length = fTS a ∧ zStk m (D ++ S) := hs
    rw [List.length_append] at hs'
    have hrl := zrk2_le a
    have e1 : nI (D.length + 1 + S.length) - 1 = nI (D.length + S.length) := by rw [show D.length + 1 + S.length = D.length + S.length + 1 by omega]; exact nI_pred _
    have w1 : zgI (zsI m 0 21 (nI (D.length + S.length))) 0 18 = nI Y.length := by rw [zgI_sI, if_neg (by omega)]; exact h18
    have w2 : zgI (zsI m 0 21 (nI (D.length + S.length))) 0 21 = nI (D.length + S.length) := by rw [zgI_sI, if_pos ⟨rfl, rfl⟩]
    have w3 : zgI (zsI m 0 21 (nI (D.length + S.length))) 11 (D.length + S.length) = fTS a := by rw [zgI_sI, if_neg (by omega)]; exact hs'.1
    have w4 : zgI (zsI (zsI m 0 21 (nI (D.length + S.length))) 10 Y.length (fTS a)) 0 18 = nI Y.length := by rw [zgI_sI, if_neg (by omega)]; exact w1
    rw [fX8_settle_0, zbd_s, h21, if_neg (nI_nle (by omega) (by omega)), zbd_s, e1, zld (i := D.length + S.length) (by omega) (by omega), zbd_s, hs'.1, if_neg (fTS_open a h9), zbd_s, e1, zld (i := D.length + S.length) (by omega) (by omega), zbd_s, hs'.1, m_rank h9, zbd2_s, if_neg (nI_nlt hr (by omega)), zbd_s, h21, e1, zbd_s, zbd_s, w1, zbd_s, w2, zld (i := D.length + S.length) (by omega) (by omega), zbd_s, w3, zst (i := Y.length) (by omega) (by omega), zbd_s, zbd_s, w4, nI_1, zbd_s]
    obtain ⟨m1, r1, r2, r3, r4, r5, r6⟩ := ih k (zsI (zsI (zsI m 0 21 (nI (D.length + S.length))) 10 Y.length (fTS a)) 0 18 (nI (Y.length + 1))) (Y ++ [a]) (fun t ht => hD t (List.mem_cons_of_mem _ ht)) (by omega) (by rw [List.length_append]; show Y.length + 1 + _ ≤ _; omega)
      (zStk_keep hs'.2 (fun i _ => by rw [zgI_sI, if_neg (by omega), zgI_sI, if_neg (by omega), zgI_sI, if_neg (by omega)])) (by rw [zgI_sI, if_neg (by omega), zgI_sI, if_neg (by omega)]; exact w2) (by rw [zgI_sI, if_pos ⟨rfl, rfl⟩, List.length_append]; rfl)
      (zAr_keep (zAr_push (w := zsI m 0 21 (nI (D.length + S.length))) (zAr_keep hY (fun i _ => by rw [zgI_sI, if_neg (by omega)])) (a := a) (v := fTS a) (fTS_M a h9).symm) (fun i _ => by rw [zgI_sI, if_neg (by omega)]))
    refine ⟨m1, r1, r2, r3, ?_, ?_, fun x i h1 h2 => by rw [r6 x i h1 h2, zgI_sI, if_neg (by omega), zgI_sI, if_neg (by omega), zgI_sI, if_neg (by omega)]⟩
    · rw [r4]; simp
    · rw [show Y ++ a :: D = Y ++ [a] ++ D by simp]; exact r5
theorem m_settle {lo : Nat} (hlo : lo ≤ 6) {S D Y : List Nat} {m : zz_W} (hS : zstop lo S) (hD : ∀ t ∈ D, t ≤ 9 ∧ lo ≤ zrk2 t) (hl : Y.length + (D.length + S.length) ≤ 96) (hs : zStk m (D ++ S)) (h21 : zgI m 0 21 = nI (D.length + S.length)) (h18 : zgI m 0 18 = nI Y.length) (hY : zAr m 10 fTM Y) :
    ∃ m1, fX8_settle (nI lo) m = some m1 ∧ zStk m1 S ∧ zgI m1 0 21 = nI S.length ∧ zgI m1 0 18 = nI (Y ++ D).length ∧ zAr m1 10 fTM (Y ++ D) ∧ (∀ a i, ¬ (a = 0 ∧ (i = 18 ∨ i = 21)) → ¬ a = 10 → zgI m1 a i = zgI m a i) := by
  have hf := zfuel_big
  exact m_settle0 (nI lo) hlo hS D (zfuel + 1) m Y hD (by omega) hl hs h21 h18 hY
def znt : List Nat → Nat
  | [] => 0
  | a :: S => znt S + if a = 9 then 1 else 0
theorem znt_le : ∀ S : List Nat, znt S ≤ S.length
  | [] => Nat.le_refl 0
  | a :: S => by have := znt_le S; rw [znt]; show _ ≤ S.length + 1; split <;> omega
theorem znt_app (U : List Nat) : ∀ D : List Nat, (∀ t ∈ D, t < 9) → znt (D ++ U) = znt U
  | [], _ => rfl
  | a :: D, h => by
    have := h a (List.mem_cons_self ..)
    show znt (D ++ U) + _ = _
    rw [znt_app U D (fun t ht => h t (List.mem_cons_of_mem _ ht)), if_neg (by omega)]
    rfl
theorem znt_rep (S : List Nat) : ∀ j, znt (List.replicate j 9 ++ S) = znt S + j
  | 0 => by simp
  | j + 1 => by
    rw [List.replicate_succ]
    show znt (List.replicate j 9 ++ S) + _ = _
    rw [znt_rep S j, if_pos rfl]
    omega
theorem zStk_drop {w : zz_W} : ∀ (d : Nat) {S : List Nat}, zStk w S → zStk w (S.drop d)
  | 0, S, h => h
  | d + 1, [], h => trivial
  | d + 1, a :: S, h => zStk_drop d h.2
theorem m_nots {m : zz_W} {S : List Nat} (hl : S.length ≤ 96) (hs : zStk m S) (h10 : ∀ t ∈ S, t ≤ 10) (h21 : zgI m 0 21 = nI S.length) : fX8_notsOpen m = some (nI (znt S), m) := by
  have hf := zfuel_big
  have key : ∀ d i k, i + d = S.length → d < k → fX8_notsOpen_4 k (nI (znt (S.drop d))) (nI i) m = some (nI (znt S), m) := by
    intro d
    induction d with
    | zero =>
      intro i k hi hk
      obtain ⟨k, rfl⟩ : ∃ x, k = x + 1 := ⟨k - 1, by omega⟩
      rw [fX8_notsOpen_4, zbd_s, h21, if_pos (nI_le (by omega) (by omega))]
      rfl
    | succ d ih =>
      intro i k hi hk
      obtain ⟨k, rfl⟩ : ∃ x, k = x + 1 := ⟨k - 1, by omega⟩
      have hd : d < S.length := by omega
      have e := List.drop_eq_getElem_cons hd
      have hs1 := zStk_drop d hs
      rw [e] at hs1
      have h1 : zgI m 11 i = fTS S[d] := by
        have := hs1.1
        rw [List.length_drop, show S.length - (d + 1) = i by omega] at this
        exact this
      have h9 := fTS_not S[d] (h10 _ (List.getElem_mem hd))
      have en : znt (S.drop d) = znt (S.drop (d + 1)) + if S[d] = 9 then 1 else 0 := by rw [e]; rfl
      have := ih (i + 1) k (by omega) (by omega)
      rw [en] at this
      rw [fX8_notsOpen_4, zbd_s, h21, if_neg (nI_ge (by omega) (by omega)), zld (i := i) (by omega) (by omega), zbd_s, h1]
      simp only [zbd_e, nI_1, Int32.add_zero]
      by_cases q : S[d] = 9
      · rw [if_pos (h9.mpr q)]
        rw [if_pos q] at this
        exact this
      · rw [if_neg (fun z => q (h9.mp z))]
        rw [if_neg q] at this
        exact this
  have := key S.length 0 zfuel (by omega) (by omega)
  rw [List.drop_length] at this
  exact this
def zdp (u : Nat) : List Nat → Option Nat
  | [] => some u
  | t :: l => if t < 9 then (if 2 ≤ u then zdp (u - 1) l else none) else if t = 9 then (if 1 ≤ u then zdp u l else none) else zdp (u + 1) l
theorem zdp_app (B : List Nat) : ∀ (A : List Nat) (u v : Nat), zdp u A = some v → zdp u (A ++ B) = zdp v B
  | [], u, v, h => by rw [zdp] at h; rw [Option.some.inj h]; rfl
  | t :: A, u, v, h => by
    show zdp u (t :: (A ++ B)) = _
    rw [zdp] at h ⊢
    by_cases h9 : t < 9
    · rw [if_pos h9] at h ⊢
      by_cases h2 : 2 ≤ u
      · rw [if_pos h2] at h ⊢; exact zdp_app B A _ v h
      · rw [if_neg h2] at h; cases h
    · rw [if_neg h9] at h ⊢
      by_cases e9 : t = 9
      · rw [if_pos e9] at h ⊢
        by_cases h2 : 1 ≤ u
        · rw [if_pos h2] at h ⊢; exact zdp_app B A _ v h
        · rw [if_neg h2] at h; cases h
      · rw [if_neg e9] at h ⊢; exact zdp_app B A _ v h
/-- tokens of a law with this key -/
def zok1 (key t : Nat) : Prop := t ≤ 9 ∨ (20 ≤ t ∧ t < 10020) ∨ (20000 ≤ t ∧ t < 20003 ∧ (t < 20002 ∨ key = 0))
def zWF (key : Nat) (Z : List Nat) : Prop := (∀ t ∈ Z, zok1 key t) ∧ ∀ u, zdp u Z = some (u + 1)
theorem zWF_atom {key t : Nat} (h : zok1 key t) (h9 : 9 < t) : zWF key [t] := ⟨fun x hx => by rw [List.mem_singleton.mp hx]; exact h, fun u => by rw [zdp, if_neg (by omega), if_neg (by omega), zdp]⟩
theorem zWF_not {key : Nat} {Z : List Nat} (h : zWF key Z) : zWF key (Z ++ [9]) := by
  refine ⟨fun x hx => ?_, fun u => ?_⟩
  · rcases List.mem_append.mp hx with q | q
    · exact h.1 x q
    · rw [List.mem_singleton.mp q]; exact Or.inl (Nat.le_refl 9)
  · rw [zdp_app [9] Z u (u + 1) (h.2 u), zdp, if_neg (by omega), if_pos rfl, if_pos (by omega), zdp]
theorem zWF_two {key : Nat} {Z V : List Nat} (h : zWF key Z) (h1 : zWF key V) {t : Nat} (ht : t < 9) : zWF key (Z ++ (V ++ [t])) := by
  refine ⟨fun x hx => ?_, fun u => ?_⟩
  · rcases List.mem_append.mp hx with q | q
    · exact h.1 x q
    · rcases List.mem_append.mp q with q | q
      · exact h1.1 x q
      · rw [List.mem_singleton.mp q]; exact Or.inl (by omega)
  · rw [zdp_app _ Z u (u + 1) (h.2 u), zdp_app [t] V (u + 1) (u + 1 + 1) (h1.2 (u + 1)), zdp, if_pos ht, if_pos (by omega), zdp]
    rfl
