/-! ===== pure: how the partial steps compute ===== -/
theorem zbd_s {α β : Type} (a : α) (f : α → Option β) : zbd (some a) f = f a := rfl
theorem zbd2_s {α γ β : Type} (a : α) (c : γ) (f : α → γ → Option β) : zbd2 (some (a, c)) f = f a c := rfl
theorem zgrd_t {α : Type} (x : Option α) : zgrd true x = x := rfl
theorem zgrd_h {α : Type} {b : Bool} (x : Option α) (h : b = true) : zgrd b x = x := by rw [h]; rfl
theorem zite_some {c : Prop} {d : Decidable c} {α γ : Type} (x y : α) (w : γ) : some ((if c then x else y), w) = if c then some (x, w) else some (y, w) := by split <;> rfl
theorem zgI_sI (w : zz_W) (k i : Nat) (v : Int32) (a b : Nat) : zgI (zsI w k i v) a b = if a = k ∧ b = i then v else zgI w a b := rfl
theorem zgI_sL (w : zz_W) (k i : Nat) (v : Int64) (a b : Nat) : zgI (zsL w k i v) a b = zgI w a b := rfl
theorem zgI_sR (w : zz_W) (k i : Nat) (v : Option Nat) (a b : Nat) : zgI (zsR w k i v) a b = zgI w a b := rfl
theorem zgL_sI (w : zz_W) (k i : Nat) (v : Int32) (a b : Nat) : zgL (zsI w k i v) a b = zgL w a b := rfl
theorem zgL_sL (w : zz_W) (k i : Nat) (v : Int64) (a b : Nat) : zgL (zsL w k i v) a b = if a = k ∧ b = i then v else zgL w a b := rfl
theorem zgL_sR (w : zz_W) (k i : Nat) (v : Option Nat) (a b : Nat) : zgL (zsR w k i v) a b = zgL w a b := rfl
theorem zgR_sI (w : zz_W) (k i : Nat) (v : Int32) (a b : Nat) : zgR (zsI w k i v) a b = zgR w a b := rfl
theorem zgR_sL (w : zz_W) (k i : Nat) (v : Int64) (a b : Nat) : zgR (zsL w k i v) a b = zgR w a b := rfl
theorem zgR_sR (w : zz_W) (k i : Nat) (v : Option Nat) (a b : Nat) : zgR (zsR w k i v) a b = if a = k ∧ b = i then v else zgR w a b := rfl
theorem zG_sI (w : zz_W) (k i : Nat) (v : Int32) : (zsI w k i v).2.2.2 = w.2.2.2 := rfl
theorem zG_sL (w : zz_W) (k i : Nat) (v : Int64) : (zsL w k i v).2.2.2 = w.2.2.2 := rfl
theorem zin_nI {i n : Nat} (h : i < n) (hn : n < 2 ^ 31) : zin (nI i) n = true := by
  unfold zin
  have h1 : ¬ nI i < 0 := nI_pos (by omega)
  rw [nI_clamp (by omega)]
  simp [h1]
  omega
theorem zld {w : zz_W} {k n i : Nat} (h : i < n) (hn : n < 2 ^ 31) : zldI w k n (nI i) = some (zgI w k i) := by
  unfold zldI; rw [if_pos (zin_nI h hn), nI_clamp (by omega)]
theorem zldLn {w : zz_W} {k n i : Nat} (h : i < n) (hn : n < 2 ^ 31) : zldL w k n (nI i) = some (zgL w k i) := by
  unfold zldL; rw [if_pos (zin_nI h hn), nI_clamp (by omega)]
theorem zldRn {w : zz_W} {k n i : Nat} (h : i < n) (hn : n < 2 ^ 31) : zldR w k n (nI i) = some (zgR w k i) := by
  unfold zldR; rw [if_pos (zin_nI h hn), nI_clamp (by omega)]
theorem zldQn {n i : Nat} {q : Nat → Nat} (h : i < n) (hn : n < 2 ^ 31) : zldQ n (nI i) q = some (q i) := by
  unfold zldQ; rw [if_pos (zin_nI h hn), nI_clamp (by omega)]
theorem zldFn {f : Nat → Int32} {n i : Nat} (h : i < n) (hn : n < 2 ^ 31) : zldF f n (nI i) = some (f i) := by
  unfold zldF; rw [if_pos (zin_nI h hn), nI_clamp (by omega)]
theorem zst {w : zz_W} {k n i : Nat} {v : Int32} (h : i < n) (hn : n < 2 ^ 31) : zstI w k n (nI i) v = some (zsI w k i v) := by
  unfold zstI; rw [if_pos (zin_nI h hn), nI_clamp (by omega)]
theorem zstLn {w : zz_W} {k n i : Nat} {v : Int64} (h : i < n) (hn : n < 2 ^ 31) : zstL w k n (nI i) v = some (zsL w k i v) := by
  unfold zstL; rw [if_pos (zin_nI h hn), nI_clamp (by omega)]
theorem zstRn {w : zz_W} {k n i : Nat} {v : Option Nat} (h : i < n) (hn : n < 2 ^ 31) : zstR w k n (nI i) v = some (zsR w k i v) := by
  unfold zstR; rw [if_pos (zin_nI h hn), nI_clamp (by omega)]
theorem zlit (n : Nat) : (OfNat.ofNat n : Int32) = nI n := rfl
theorem zdivn {x : Int32} {d : Nat} (h : 0 < d) (hd : d < 2 ^ 31) : zdiv x (nI d) = some (x / nI d) := by
  unfold zdiv; rw [if_neg (nI_ne0 h hd)]
theorem zremn {x : Int32} {d : Nat} (h : 0 < d) (hd : d < 2 ^ 31) : zrem x (nI d) = some (x - x / nI d * nI d) := by
  unfold zrem; rw [if_neg (nI_ne0 h hd)]
theorem zdivN {a d : Nat} (ha : a < 2 ^ 31) (h : 0 < d) (hd : d < 2 ^ 31) : zdiv (nI a) (nI d) = some (nI (a / d)) := by
  rw [zdivn h hd, pk_div ha h hd]
theorem zremN {a d : Nat} (ha : a < 2 ^ 31) (h : 0 < d) (hd : d < 2 ^ 31) : zrem (nI a) (nI d) = some (nI (a % d)) := by
  rw [zremn h hd, pk_rem ha h hd]
/-! within -/
def zwi (v a b : Int32) : Int32 := if v < a then 0 else if b < v then 0 else 1
theorem zwi_01 (v a b : Int32) : zwi v a b = 0 ∨ zwi v a b = 1 := by
  unfold zwi; split
  · exact Or.inl rfl
  · split
    · exact Or.inl rfl
    · exact Or.inr rfl
theorem zboo_wi (v a b : Int32) : zboo (zwi v a b) = some (zwi v a b) := by unfold zboo; rw [if_pos (zwi_01 v a b)]
theorem m_in (v a b : Int32) (w : zz_W) : fX8_in v a b w = some (zwi v a b, w) := by unfold fX8_in zwi; simp only [zite_some]
theorem c_within (v a b : Int32) (w : zz_W) : fX7_within v a b w = some (zwi v a b, w) := by unfold fX7_within zwi; simp only [zite_some]
theorem c_isCell (v : Int32) (w : zz_W) : fX7_isCell v w = some (zwi v 0 35, w) := by unfold fX7_isCell; simp only [c_within, zbd2_s, zboo_wi, zbd_s]
theorem c_isDepth (v : Int32) (w : zz_W) : fX7_isDepth v w = some (zwi v 1 9, w) := by unfold fX7_isDepth; simp only [c_within, zbd2_s, zboo_wi, zbd_s]
theorem c_isKind (v : Int32) (w : zz_W) : fX7_isKind v w = some (zwi v 0 5, w) := by unfold fX7_isKind; simp only [c_within, zbd2_s, zboo_wi, zbd_s]
theorem c_isSort (v : Int32) (w : zz_W) : fX7_isSort v w = some (zwi v 0 3, w) := by unfold fX7_isSort; simp only [c_within, zbd2_s, zboo_wi, zbd_s]
theorem c_isSheet (v : Int32) (w : zz_W) : fX7_isSheet v w = some (zwi v 0 3, w) := by unfold fX7_isSheet; simp only [c_within, zbd2_s, zboo_wi, zbd_s]
theorem c_isSlot (v : Int32) (w : zz_W) : fX7_isSlot v w = some (zwi v 0 4, w) := by unfold fX7_isSlot; simp only [c_within, zbd2_s, zboo_wi, zbd_s]
theorem m_isCell (v : Int32) (w : zz_W) : fX8_isCell v w = some (zwi v 0 35, w) := by unfold fX8_isCell; simp only [m_in, zbd2_s, zboo_wi, zbd_s]
theorem m_isSheet (v : Int32) (w : zz_W) : fX8_isSheet v w = some (zwi v 0 3, w) := by unfold fX8_isSheet; simp only [m_in, zbd2_s, zboo_wi, zbd_s]
theorem m_isSlot (v : Int32) (w : zz_W) : fX8_isSlot v w = some (zwi v 0 4, w) := by unfold fX8_isSlot; simp only [m_in, zbd2_s, zboo_wi, zbd_s]
/-- a number within lo .. hi, or not -/
theorem zwi_lit (v : Int32) (lo hi : Nat) (h : lo ≤ hi) (hh : hi < 2 ^ 31) : zwi v (nI lo) (nI hi) = 0 ∨ (zwi v (nI lo) (nI hi) = 1 ∧ ∃ j, lo ≤ j ∧ j ≤ hi ∧ v = nI j) := by
  unfold zwi
  by_cases h1 : v < nI lo
  · exact Or.inl (if_pos h1)
  · rw [if_neg h1]
    by_cases h2 : nI hi < v
    · exact Or.inl (if_pos h2)
    · rw [if_neg h2]
      refine Or.inr ⟨rfl, ?_⟩
      have h0 : ¬ v < 0 := by
        rw [Int32.lt_iff_toInt_lt] at h1 ⊢
        rw [nI_toInt (by omega)] at h1
        have : (0 : Int32).toInt = 0 := by decide
        omega
      obtain ⟨j, hj, rfl⟩ := nI_of h0
      rw [nI_ltI hj (by omega)] at h1
      rw [nI_ltI (by omega) hj] at h2
      exact ⟨j, by omega, by omega, rfl⟩
theorem zwi_run (v : Int32) (n : Nat) (hn : n ≤ 2000) : zwi v 0 (nI n - 1) = 0 ∨ (zwi v 0 (nI n - 1) = 1 ∧ ∃ j, j < n ∧ v = nI j) := by
  by_cases h0 : n = 0
  · subst h0
    left
    unfold zwi
    by_cases h1 : v < 0
    · exact if_pos h1
    · rw [if_neg h1]
      refine if_pos ?_
      rw [Int32.lt_iff_toInt_lt] at h1 ⊢
      have e : (nI 0 - 1).toInt = -1 := by decide
      have : (0 : Int32).toInt = 0 := by decide
      omega
  · have e : nI n - 1 = nI (n - 1) := by
      have := pk_sub (a := n) (b := 1) (by omega)
      exact this
    rw [e]
    rcases zwi_lit v 0 (n - 1) (by omega) (by omega) with h | ⟨h, j, _, hj, e2⟩
    · exact Or.inl h
    · exact Or.inr ⟨h, j, by omega, e2⟩
theorem zwi_yes {j lo hi : Nat} (h1 : lo ≤ j) (h2 : j ≤ hi) (hh : hi < 2 ^ 31) : zwi (nI j) (nI lo) (nI hi) = 1 := by
  unfold zwi
  rw [if_neg (nI_nlt h1 (by omega)), if_neg (nI_nlt h2 hh)]
theorem z10 : ¬ (1 : Int32) = 0 := by decide
