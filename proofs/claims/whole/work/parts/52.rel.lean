/-! ===== a Wall of the component (base b, n runs) shows what the row of the reference holds; c0, m0: the worlds that all else is as in ===== -/
def zWal (b n : Nat) (c0 m0 c m : zz_W) : Prop :=
  (zisW b = true) ∧
  (n ≤ 10) ∧
  (zgI c b 14 = zgI m 1 0) ∧
  (zgI c b 9 = nI n) ∧
  (zgI m 1 1 = nI n) ∧
  (zgI c b 13 = zgI m 1 2) ∧
  (zgI c b 11 = zgI m 1 3) ∧
  (zgI c b 12 = zgI m 1 4) ∧
  (∀ j, j < 7 → zgI c (b + 7) j = zgI m 1 (5 + j)) ∧
  (zgI c b 10 = zgI m 1 12) ∧
  (zgI m 1 12 = -1 ∨ ∃ r, r < n ∧ zgI m 1 12 = nI r) ∧
  (∃ s, s ≤ 49 ∧ zgI m 1 3 = nI s) ∧
  (∀ r, r < n → zgI c (b + 1) r = zgI m 1 (14 + 5 * r)) ∧
  (∀ r, r < n → zgI c (b + 2) r = zgI m 1 (15 + 5 * r)) ∧
  (∀ r, r < n → zgI c (b + 3) r = zgI m 1 (16 + 5 * r)) ∧
  (∀ r, r < n → zgI c (b + 4) r = zgI m 1 (17 + 5 * r)) ∧
  (∀ r, r < n → zgI c (b + 5) r = zgI m 1 (18 + 5 * r)) ∧
  (∀ r, r < n → zgL c (b + 6) r = zways (zgI m 1 (14 + 5 * r)) (zgI m 1 (15 + 5 * r))) ∧
  (∀ r, r < n → ∃ x, x < 6 ∧ zgI m 1 (14 + 5 * r) = nI x) ∧
  (∀ r, r < n → ∃ x, x < 36 ∧ zgI m 1 (15 + 5 * r) = nI x) ∧
  (∀ r, r < n → ∃ x, 1 ≤ x ∧ x ≤ 99 ∧ zgI m 1 (16 + 5 * r) = nI x) ∧
  (∀ r, r < n → ∃ x, 1 ≤ x ∧ x ≤ 9 ∧ zgI m 1 (17 + 5 * r) = nI x) ∧
  (∀ r, r < n → ∃ x, x ≤ 99000 ∧ zgI m 1 (18 + 5 * r) = nI x) ∧
  (∀ a i, ¬ (b ≤ a ∧ a ≤ b + 7) → zgI c a i = zgI c0 a i) ∧
  (∀ i, ¬ (9 ≤ i ∧ i ≤ 14 ∧ ¬ i = 13) → zgI c b i = zgI c0 b i) ∧
  (∀ a i, ¬ a = b + 6 → zgL c a i = zgL c0 a i) ∧
  (c.2.2 = c0.2.2) ∧
  (∀ a i, ¬ (a = 1 ∧ i < 64 ∧ ¬ i = 13 ∧ ¬ i = 2) → zgI m a i = zgI m0 a i) ∧
  (m.2 = m0.2) ∧
  (0 ≤ zgI m0 1 12 → 0 ≤ zgI m 1 12)
theorem zWal.W {b n : Nat} {c0 m0 c m : zz_W} (h : zWal b n c0 m0 c m) : zisW b = true := h.1
theorem zWal.hn {b n : Nat} {c0 m0 c m : zz_W} (h : zWal b n c0 m0 c m) : n ≤ 10 := h.2.1
theorem zWal.cz {b n : Nat} {c0 m0 c m : zz_W} (h : zWal b n c0 m0 c m) : zgI c b 14 = zgI m 1 0 := h.2.2.1
theorem zWal.cn {b n : Nat} {c0 m0 c m : zz_W} (h : zWal b n c0 m0 c m) : zgI c b 9 = nI n := h.2.2.2.1
theorem zWal.mn {b n : Nat} {c0 m0 c m : zz_W} (h : zWal b n c0 m0 c m) : zgI m 1 1 = nI n := h.2.2.2.2.1
theorem zWal.cs {b n : Nat} {c0 m0 c m : zz_W} (h : zWal b n c0 m0 c m) : zgI c b 13 = zgI m 1 2 := h.2.2.2.2.2.1
theorem zWal.cp {b n : Nat} {c0 m0 c m : zz_W} (h : zWal b n c0 m0 c m) : zgI c b 11 = zgI m 1 3 := h.2.2.2.2.2.2.1
theorem zWal.cm {b n : Nat} {c0 m0 c m : zz_W} (h : zWal b n c0 m0 c m) : zgI c b 12 = zgI m 1 4 := h.2.2.2.2.2.2.2.1
theorem zWal.ct {b n : Nat} {c0 m0 c m : zz_W} (h : zWal b n c0 m0 c m) : ∀ j, j < 7 → zgI c (b + 7) j = zgI m 1 (5 + j) := h.2.2.2.2.2.2.2.2.1
theorem zWal.ctr {b n : Nat} {c0 m0 c m : zz_W} (h : zWal b n c0 m0 c m) : zgI c b 10 = zgI m 1 12 := h.2.2.2.2.2.2.2.2.2.1
theorem zWal.tr {b n : Nat} {c0 m0 c m : zz_W} (h : zWal b n c0 m0 c m) : zgI m 1 12 = -1 ∨ ∃ r, r < n ∧ zgI m 1 12 = nI r := h.2.2.2.2.2.2.2.2.2.2.1
theorem zWal.sl {b n : Nat} {c0 m0 c m : zz_W} (h : zWal b n c0 m0 c m) : ∃ s, s ≤ 49 ∧ zgI m 1 3 = nI s := h.2.2.2.2.2.2.2.2.2.2.2.1
theorem zWal.ck {b n : Nat} {c0 m0 c m : zz_W} (h : zWal b n c0 m0 c m) : ∀ r, r < n → zgI c (b + 1) r = zgI m 1 (14 + 5 * r) := h.2.2.2.2.2.2.2.2.2.2.2.2.1
theorem zWal.cc {b n : Nat} {c0 m0 c m : zz_W} (h : zWal b n c0 m0 c m) : ∀ r, r < n → zgI c (b + 2) r = zgI m 1 (15 + 5 * r) := h.2.2.2.2.2.2.2.2.2.2.2.2.2.1
theorem zWal.cl {b n : Nat} {c0 m0 c m : zz_W} (h : zWal b n c0 m0 c m) : ∀ r, r < n → zgI c (b + 3) r = zgI m 1 (16 + 5 * r) := h.2.2.2.2.2.2.2.2.2.2.2.2.2.2.1
theorem zWal.cd {b n : Nat} {c0 m0 c m : zz_W} (h : zWal b n c0 m0 c m) : ∀ r, r < n → zgI c (b + 4) r = zgI m 1 (17 + 5 * r) := h.2.2.2.2.2.2.2.2.2.2.2.2.2.2.2.1
theorem zWal.co {b n : Nat} {c0 m0 c m : zz_W} (h : zWal b n c0 m0 c m) : ∀ r, r < n → zgI c (b + 5) r = zgI m 1 (18 + 5 * r) := h.2.2.2.2.2.2.2.2.2.2.2.2.2.2.2.2.1
theorem zWal.cw {b n : Nat} {c0 m0 c m : zz_W} (h : zWal b n c0 m0 c m) : ∀ r, r < n → zgL c (b + 6) r = zways (zgI m 1 (14 + 5 * r)) (zgI m 1 (15 + 5 * r)) := h.2.2.2.2.2.2.2.2.2.2.2.2.2.2.2.2.2.1
theorem zWal.rk {b n : Nat} {c0 m0 c m : zz_W} (h : zWal b n c0 m0 c m) : ∀ r, r < n → ∃ x, x < 6 ∧ zgI m 1 (14 + 5 * r) = nI x := h.2.2.2.2.2.2.2.2.2.2.2.2.2.2.2.2.2.2.1
theorem zWal.rc {b n : Nat} {c0 m0 c m : zz_W} (h : zWal b n c0 m0 c m) : ∀ r, r < n → ∃ x, x < 36 ∧ zgI m 1 (15 + 5 * r) = nI x := h.2.2.2.2.2.2.2.2.2.2.2.2.2.2.2.2.2.2.2.1
theorem zWal.rl {b n : Nat} {c0 m0 c m : zz_W} (h : zWal b n c0 m0 c m) : ∀ r, r < n → ∃ x, 1 ≤ x ∧ x ≤ 99 ∧ zgI m 1 (16 + 5 * r) = nI x := h.2.2.2.2.2.2.2.2.2.2.2.2.2.2.2.2.2.2.2.2.1
theorem zWal.rd {b n : Nat} {c0 m0 c m : zz_W} (h : zWal b n c0 m0 c m) : ∀ r, r < n → ∃ x, 1 ≤ x ∧ x ≤ 9 ∧ zgI m 1 (17 + 5 * r) = nI x := h.2.2.2.2.2.2.2.2.2.2.2.2.2.2.2.2.2.2.2.2.2.1
theorem zWal.ro {b n : Nat} {c0 m0 c m : zz_W} (h : zWal b n c0 m0 c m) : ∀ r, r < n → ∃ x, x ≤ 99000 ∧ zgI m 1 (18 + 5 * r) = nI x := h.2.2.2.2.2.2.2.2.2.2.2.2.2.2.2.2.2.2.2.2.2.2.1
theorem zWal.fc {b n : Nat} {c0 m0 c m : zz_W} (h : zWal b n c0 m0 c m) : ∀ a i, ¬ (b ≤ a ∧ a ≤ b + 7) → zgI c a i = zgI c0 a i := h.2.2.2.2.2.2.2.2.2.2.2.2.2.2.2.2.2.2.2.2.2.2.2.1
theorem zWal.fb {b n : Nat} {c0 m0 c m : zz_W} (h : zWal b n c0 m0 c m) : ∀ i, ¬ (9 ≤ i ∧ i ≤ 14 ∧ ¬ i = 13) → zgI c b i = zgI c0 b i := h.2.2.2.2.2.2.2.2.2.2.2.2.2.2.2.2.2.2.2.2.2.2.2.2.1
theorem zWal.fl {b n : Nat} {c0 m0 c m : zz_W} (h : zWal b n c0 m0 c m) : ∀ a i, ¬ a = b + 6 → zgL c a i = zgL c0 a i := h.2.2.2.2.2.2.2.2.2.2.2.2.2.2.2.2.2.2.2.2.2.2.2.2.2.1
theorem zWal.fg {b n : Nat} {c0 m0 c m : zz_W} (h : zWal b n c0 m0 c m) : c.2.2 = c0.2.2 := h.2.2.2.2.2.2.2.2.2.2.2.2.2.2.2.2.2.2.2.2.2.2.2.2.2.2.1
theorem zWal.fm {b n : Nat} {c0 m0 c m : zz_W} (h : zWal b n c0 m0 c m) : ∀ a i, ¬ (a = 1 ∧ i < 64 ∧ ¬ i = 13 ∧ ¬ i = 2) → zgI m a i = zgI m0 a i := h.2.2.2.2.2.2.2.2.2.2.2.2.2.2.2.2.2.2.2.2.2.2.2.2.2.2.2.1
theorem zWal.fh {b n : Nat} {c0 m0 c m : zz_W} (h : zWal b n c0 m0 c m) : m.2 = m0.2 := h.2.2.2.2.2.2.2.2.2.2.2.2.2.2.2.2.2.2.2.2.2.2.2.2.2.2.2.2.1
theorem zWal.fz {b n : Nat} {c0 m0 c m : zz_W} (h : zWal b n c0 m0 c m) : 0 ≤ zgI m0 1 12 → 0 ≤ zgI m 1 12 := h.2.2.2.2.2.2.2.2.2.2.2.2.2.2.2.2.2.2.2.2.2.2.2.2.2.2.2.2.2
theorem zWal_z {b n : Nat} {c0 m0 c m : zz_W} (h : zWal b n c0 m0 c m) (v : Int32) : zWal b n c0 m0 (zsI c b 14 v) (zsI m 1 0 v) := by
  have hn10 := h.hn
  unfold zWal
  refine ⟨?_, ?_, ?_, ?_, ?_, ?_, ?_, ?_, ?_, ?_, ?_, ?_, ?_, ?_, ?_, ?_, ?_, ?_, ?_, ?_, ?_, ?_, ?_, ?_, ?_, ?_, ?_, ?_, ?_, ?_⟩
  · exact h.W
  · exact h.hn
  · have e := h.cz; (repeat rw [zgI_sL]); (repeat rw [zgI_sI]); (repeat rw [zgL_sL]); (repeat rw [zgL_sI]); (repeat' split) <;> first | rfl | (exfalso; omega) | exact e | grind
  · have e := h.cn; (repeat rw [zgI_sL]); (repeat rw [zgI_sI]); (repeat rw [zgL_sL]); (repeat rw [zgL_sI]); (repeat' split) <;> first | rfl | (exfalso; omega) | exact e | grind
  · have e := h.mn; (repeat rw [zgI_sL]); (repeat rw [zgI_sI]); (repeat rw [zgL_sL]); (repeat rw [zgL_sI]); (repeat' split) <;> first | rfl | (exfalso; omega) | exact e | grind
  · have e := h.cs; (repeat rw [zgI_sL]); (repeat rw [zgI_sI]); (repeat rw [zgL_sL]); (repeat rw [zgL_sI]); (repeat' split) <;> first | rfl | (exfalso; omega) | exact e | grind
  · have e := h.cp; (repeat rw [zgI_sL]); (repeat rw [zgI_sI]); (repeat rw [zgL_sL]); (repeat rw [zgL_sI]); (repeat' split) <;> first | rfl | (exfalso; omega) | exact e | grind
  · have e := h.cm; (repeat rw [zgI_sL]); (repeat rw [zgI_sI]); (repeat rw [zgL_sL]); (repeat rw [zgL_sI]); (repeat' split) <;> first | rfl | (exfalso; omega) | exact e | grind
  · intro r hr; have e := h.ct r hr; (repeat rw [zgI_sL]); (repeat rw [zgI_sI]); (repeat rw [zgL_sL]); (repeat rw [zgL_sI]); (repeat' split) <;> first | rfl | (exfalso; omega) | exact e | grind
  · have e := h.ctr; (repeat rw [zgI_sL]); (repeat rw [zgI_sI]); (repeat rw [zgL_sL]); (repeat rw [zgL_sI]); (repeat' split) <;> first | rfl | (exfalso; omega) | exact e | grind
  · have e := h.tr; (repeat rw [zgI_sL]); (repeat rw [zgI_sI]); (repeat rw [zgL_sL]); (repeat rw [zgL_sI]); (repeat' split) <;> first | rfl | (exfalso; omega) | exact e | grind
  · have e := h.sl; (repeat rw [zgI_sL]); (repeat rw [zgI_sI]); (repeat rw [zgL_sL]); (repeat rw [zgL_sI]); (repeat' split) <;> first | rfl | (exfalso; omega) | exact e | grind
  · intro r hr; have e := h.ck r hr; (repeat rw [zgI_sL]); (repeat rw [zgI_sI]); (repeat rw [zgL_sL]); (repeat rw [zgL_sI]); (repeat' split) <;> first | rfl | (exfalso; omega) | exact e | grind
  · intro r hr; have e := h.cc r hr; (repeat rw [zgI_sL]); (repeat rw [zgI_sI]); (repeat rw [zgL_sL]); (repeat rw [zgL_sI]); (repeat' split) <;> first | rfl | (exfalso; omega) | exact e | grind
  · intro r hr; have e := h.cl r hr; (repeat rw [zgI_sL]); (repeat rw [zgI_sI]); (repeat rw [zgL_sL]); (repeat rw [zgL_sI]); (repeat' split) <;> first | rfl | (exfalso; omega) | exact e | grind
  · intro r hr; have e := h.cd r hr; (repeat rw [zgI_sL]); (repeat rw [zgI_sI]); (repeat rw [zgL_sL]); (repeat rw [zgL_sI]); (repeat' split) <;> first | rfl | (exfalso; omega) | exact e | grind
  · intro r hr; have e := h.co r hr; (repeat rw [zgI_sL]); (repeat rw [zgI_sI]); (repeat rw [zgL_sL]); (repeat rw [zgL_sI]); (repeat' split) <;> first | rfl | (exfalso; omega) | exact e | grind
  · intro r hr; have e := h.cw r hr; (repeat rw [zgI_sL]); (repeat rw [zgI_sI]); (repeat rw [zgL_sL]); (repeat rw [zgL_sI]); (repeat' split) <;> first | rfl | (exfalso; omega) | exact e | grind
  · intro r hr; have e := h.rk r hr; (repeat rw [zgI_sL]); (repeat rw [zgI_sI]); (repeat rw [zgL_sL]); (repeat rw [zgL_sI]); (repeat' split) <;> first | rfl | (exfalso; omega) | exact e | grind
  · intro r hr; have e := h.rc r hr; (repeat rw [zgI_sL]); (repeat rw [zgI_sI]); (repeat rw [zgL_sL]); (repeat rw [zgL_sI]); (repeat' split) <;> first | rfl | (exfalso; omega) | exact e | grind
  · intro r hr; have e := h.rl r hr; (repeat rw [zgI_sL]); (repeat rw [zgI_sI]); (repeat rw [zgL_sL]); (repeat rw [zgL_sI]); (repeat' split) <;> first | rfl | (exfalso; omega) | exact e | grind
  · intro r hr; have e := h.rd r hr; (repeat rw [zgI_sL]); (repeat rw [zgI_sI]); (repeat rw [zgL_sL]); (repeat rw [zgL_sI]); (repeat' split) <;> first | rfl | (exfalso; omega) | exact e | grind
  · intro r hr; have e := h.ro r hr; (repeat rw [zgI_sL]); (repeat rw [zgI_sI]); (repeat rw [zgL_sL]); (repeat rw [zgL_sI]); (repeat' split) <;> first | rfl | (exfalso; omega) | exact e | grind
  · intro a i hr; have e := h.fc a i hr; (repeat rw [zgI_sL]); (repeat rw [zgI_sI]); (repeat rw [zgL_sL]); (repeat rw [zgL_sI]); (repeat' split) <;> first | rfl | (exfalso; omega) | exact e | grind
  · intro r hr; have e := h.fb r hr; (repeat rw [zgI_sL]); (repeat rw [zgI_sI]); (repeat rw [zgL_sL]); (repeat rw [zgL_sI]); (repeat' split) <;> first | rfl | (exfalso; omega) | exact e | grind
  · intro a i hr; have e := h.fl a i hr; (repeat rw [zgI_sL]); (repeat rw [zgI_sI]); (repeat rw [zgL_sL]); (repeat rw [zgL_sI]); (repeat' split) <;> first | rfl | (exfalso; omega) | exact e | grind
  · exact h.fg
  · intro a i hr; have e := h.fm a i hr; (repeat rw [zgI_sL]); (repeat rw [zgI_sI]); (repeat rw [zgL_sL]); (repeat rw [zgL_sI]); (repeat' split) <;> first | rfl | (exfalso; omega) | exact e | grind
  · exact h.fh
  · have e := h.fz; (repeat rw [zgI_sL]); (repeat rw [zgI_sI]); (repeat rw [zgL_sL]); (repeat rw [zgL_sI]); (repeat' split) <;> first | rfl | (exfalso; omega) | exact e | grind
theorem zWal_s {b n : Nat} {c0 m0 c m : zz_W} (h : zWal b n c0 m0 c m) (v : Int32) : zWal b n (zsI c b 13 v) (zsI m 1 2 v) (zsI c b 13 v) (zsI m 1 2 v) := by
  have hn10 := h.hn
  unfold zWal
  refine ⟨?_, ?_, ?_, ?_, ?_, ?_, ?_, ?_, ?_, ?_, ?_, ?_, ?_, ?_, ?_, ?_, ?_, ?_, ?_, ?_, ?_, ?_, ?_, ?_, ?_, ?_, ?_, ?_, ?_, ?_⟩
  · exact h.W
  · exact h.hn
  · have e := h.cz; (repeat rw [zgI_sL]); (repeat rw [zgI_sI]); (repeat rw [zgL_sL]); (repeat rw [zgL_sI]); (repeat' split) <;> first | rfl | (exfalso; omega) | exact e | grind
  · have e := h.cn; (repeat rw [zgI_sL]); (repeat rw [zgI_sI]); (repeat rw [zgL_sL]); (repeat rw [zgL_sI]); (repeat' split) <;> first | rfl | (exfalso; omega) | exact e | grind
  · have e := h.mn; (repeat rw [zgI_sL]); (repeat rw [zgI_sI]); (repeat rw [zgL_sL]); (repeat rw [zgL_sI]); (repeat' split) <;> first | rfl | (exfalso; omega) | exact e | grind
  · have e := h.cs; (repeat rw [zgI_sL]); (repeat rw [zgI_sI]); (repeat rw [zgL_sL]); (repeat rw [zgL_sI]); (repeat' split) <;> first | rfl | (exfalso; omega) | exact e | grind
  · have e := h.cp; (repeat rw [zgI_sL]); (repeat rw [zgI_sI]); (repeat rw [zgL_sL]); (repeat rw [zgL_sI]); (repeat' split) <;> first | rfl | (exfalso; omega) | exact e | grind
  · have e := h.cm; (repeat rw [zgI_sL]); (repeat rw [zgI_sI]); (repeat rw [zgL_sL]); (repeat rw [zgL_sI]); (repeat' split) <;> first | rfl | (exfalso; omega) | exact e | grind
  · intro r hr; have e := h.ct r hr; (repeat rw [zgI_sL]); (repeat rw [zgI_sI]); (repeat rw [zgL_sL]); (repeat rw [zgL_sI]); (repeat' split) <;> first | rfl | (exfalso; omega) | exact e | grind
  · have e := h.ctr; (repeat rw [zgI_sL]); (repeat rw [zgI_sI]); (repeat rw [zgL_sL]); (repeat rw [zgL_sI]); (repeat' split) <;> first | rfl | (exfalso; omega) | exact e | grind
  · have e := h.tr; (repeat rw [zgI_sL]); (repeat rw [zgI_sI]); (repeat rw [zgL_sL]); (repeat rw [zgL_sI]); (repeat' split) <;> first | rfl | (exfalso; omega) | exact e | grind
  · have e := h.sl; (repeat rw [zgI_sL]); (repeat rw [zgI_sI]); (repeat rw [zgL_sL]); (repeat rw [zgL_sI]); (repeat' split) <;> first | rfl | (exfalso; omega) | exact e | grind
  · intro r hr; have e := h.ck r hr; (repeat rw [zgI_sL]); (repeat rw [zgI_sI]); (repeat rw [zgL_sL]); (repeat rw [zgL_sI]); (repeat' split) <;> first | rfl | (exfalso; omega) | exact e | grind
  · intro r hr; have e := h.cc r hr; (repeat rw [zgI_sL]); (repeat rw [zgI_sI]); (repeat rw [zgL_sL]); (repeat rw [zgL_sI]); (repeat' split) <;> first | rfl | (exfalso; omega) | exact e | grind
  · intro r hr; have e := h.cl r hr; (repeat rw [zgI_sL]); (repeat rw [zgI_sI]); (repeat rw [zgL_sL]); (repeat rw [zgL_sI]); (repeat' split) <;> first | rfl | (exfalso; omega) | exact e | grind
  · intro r hr; have e := h.cd r hr; (repeat rw [zgI_sL]); (repeat rw [zgI_sI]); (repeat rw [zgL_sL]); (repeat rw [zgL_sI]); (repeat' split) <;> first | rfl | (exfalso; omega) | exact e | grind
  · intro r hr; have e := h.co r hr; (repeat rw [zgI_sL]); (repeat rw [zgI_sI]); (repeat rw [zgL_sL]); (repeat rw [zgL_sI]); (repeat' split) <;> first | rfl | (exfalso; omega) | exact e | grind
  · intro r hr; have e := h.cw r hr; (repeat rw [zgI_sL]); (repeat rw [zgI_sI]); (repeat rw [zgL_sL]); (repeat rw [zgL_sI]); (repeat' split) <;> first | rfl | (exfalso; omega) | exact e | grind
  · intro r hr; have e := h.rk r hr; (repeat rw [zgI_sL]); (repeat rw [zgI_sI]); (repeat rw [zgL_sL]); (repeat rw [zgL_sI]); (repeat' split) <;> first | rfl | (exfalso; omega) | exact e | grind
  · intro r hr; have e := h.rc r hr; (repeat rw [zgI_sL]); (repeat rw [zgI_sI]); (repeat rw [zgL_sL]); (repeat rw [zgL_sI]); (repeat' split) <;> first | rfl | (exfalso; omega) | exact e | grind
  · intro r hr; have e := h.rl r hr; (repeat rw [zgI_sL]); (repeat rw [zgI_sI]); (repeat rw [zgL_sL]); (repeat rw [zgL_sI]); (repeat' split) <;> first | rfl | (exfalso; omega) | exact e | grind
  · intro r hr; have e := h.rd r hr; (repeat rw [zgI_sL]); (repeat rw [zgI_sI]); (repeat rw [zgL_sL]); (repeat rw [zgL_sI]); (repeat' split) <;> first | rfl | (exfalso; omega) | exact e | grind
  · intro r hr; have e := h.ro r hr; (repeat rw [zgI_sL]); (repeat rw [zgI_sI]); (repeat rw [zgL_sL]); (repeat rw [zgL_sI]); (repeat' split) <;> first | rfl | (exfalso; omega) | exact e | grind
  · intros; rfl
  · intros; rfl
  · intros; rfl
  · rfl
  · intros; rfl
  · rfl
  · exact id
theorem zWal_m {b n : Nat} {c0 m0 c m : zz_W} (h : zWal b n c0 m0 c m) (v : Int32) : zWal b n c0 m0 (zsI c b 12 v) (zsI m 1 4 v) := by
  have hn10 := h.hn
  unfold zWal
  refine ⟨?_, ?_, ?_, ?_, ?_, ?_, ?_, ?_, ?_, ?_, ?_, ?_, ?_, ?_, ?_, ?_, ?_, ?_, ?_, ?_, ?_, ?_, ?_, ?_, ?_, ?_, ?_, ?_, ?_, ?_⟩
  · exact h.W
  · exact h.hn
  · have e := h.cz; (repeat rw [zgI_sL]); (repeat rw [zgI_sI]); (repeat rw [zgL_sL]); (repeat rw [zgL_sI]); (repeat' split) <;> first | rfl | (exfalso; omega) | exact e | grind
  · have e := h.cn; (repeat rw [zgI_sL]); (repeat rw [zgI_sI]); (repeat rw [zgL_sL]); (repeat rw [zgL_sI]); (repeat' split) <;> first | rfl | (exfalso; omega) | exact e | grind
  · have e := h.mn; (repeat rw [zgI_sL]); (repeat rw [zgI_sI]); (repeat rw [zgL_sL]); (repeat rw [zgL_sI]); (repeat' split) <;> first | rfl | (exfalso; omega) | exact e | grind
  · have e := h.cs; (repeat rw [zgI_sL]); (repeat rw [zgI_sI]); (repeat rw [zgL_sL]); (repeat rw [zgL_sI]); (repeat' split) <;> first | rfl | (exfalso; omega) | exact e | grind
  · have e := h.cp; (repeat rw [zgI_sL]); (repeat rw [zgI_sI]); (repeat rw [zgL_sL]); (repeat rw [zgL_sI]); (repeat' split) <;> first | rfl | (exfalso; omega) | exact e | grind
  · have e := h.cm; (repeat rw [zgI_sL]); (repeat rw [zgI_sI]); (repeat rw [zgL_sL]); (repeat rw [zgL_sI]); (repeat' split) <;> first | rfl | (exfalso; omega) | exact e | grind
  · intro r hr; have e := h.ct r hr; (repeat rw [zgI_sL]); (repeat rw [zgI_sI]); (repeat rw [zgL_sL]); (repeat rw [zgL_sI]); (repeat' split) <;> first | rfl | (exfalso; omega) | exact e | grind
  · have e := h.ctr; (repeat rw [zgI_sL]); (repeat rw [zgI_sI]); (repeat rw [zgL_sL]); (repeat rw [zgL_sI]); (repeat' split) <;> first | rfl | (exfalso; omega) | exact e | grind
  · have e := h.tr; (repeat rw [zgI_sL]); (repeat rw [zgI_sI]); (repeat rw [zgL_sL]); (repeat rw [zgL_sI]); (repeat' split) <;> first | rfl | (exfalso; omega) | exact e | grind
  · have e := h.sl; (repeat rw [zgI_sL]); (repeat rw [zgI_sI]); (repeat rw [zgL_sL]); (repeat rw [zgL_sI]); (repeat' split) <;> first | rfl | (exfalso; omega) | exact e | grind
  · intro r hr; have e := h.ck r hr; (repeat rw [zgI_sL]); (repeat rw [zgI_sI]); (repeat rw [zgL_sL]); (repeat rw [zgL_sI]); (repeat' split) <;> first | rfl | (exfalso; omega) | exact e | grind
  · intro r hr; have e := h.cc r hr; (repeat rw [zgI_sL]); (repeat rw [zgI_sI]); (repeat rw [zgL_sL]); (repeat rw [zgL_sI]); (repeat' split) <;> first | rfl | (exfalso; omega) | exact e | grind
  · intro r hr; have e := h.cl r hr; (repeat rw [zgI_sL]); (repeat rw [zgI_sI]); (repeat rw [zgL_sL]); (repeat rw [zgL_sI]); (repeat' split) <;> first | rfl | (exfalso; omega) | exact e | grind
  · intro r hr; have e := h.cd r hr; (repeat rw [zgI_sL]); (repeat rw [zgI_sI]); (repeat rw [zgL_sL]); (repeat rw [zgL_sI]); (repeat' split) <;> first | rfl | (exfalso; omega) | exact e | grind
  · intro r hr; have e := h.co r hr; (repeat rw [zgI_sL]); (repeat rw [zgI_sI]); (repeat rw [zgL_sL]); (repeat rw [zgL_sI]); (repeat' split) <;> first | rfl | (exfalso; omega) | exact e | grind
  · intro r hr; have e := h.cw r hr; (repeat rw [zgI_sL]); (repeat rw [zgI_sI]); (repeat rw [zgL_sL]); (repeat rw [zgL_sI]); (repeat' split) <;> first | rfl | (exfalso; omega) | exact e | grind
  · intro r hr; have e := h.rk r hr; (repeat rw [zgI_sL]); (repeat rw [zgI_sI]); (repeat rw [zgL_sL]); (repeat rw [zgL_sI]); (repeat' split) <;> first | rfl | (exfalso; omega) | exact e | grind
  · intro r hr; have e := h.rc r hr; (repeat rw [zgI_sL]); (repeat rw [zgI_sI]); (repeat rw [zgL_sL]); (repeat rw [zgL_sI]); (repeat' split) <;> first | rfl | (exfalso; omega) | exact e | grind
  · intro r hr; have e := h.rl r hr; (repeat rw [zgI_sL]); (repeat rw [zgI_sI]); (repeat rw [zgL_sL]); (repeat rw [zgL_sI]); (repeat' split) <;> first | rfl | (exfalso; omega) | exact e | grind
  · intro r hr; have e := h.rd r hr; (repeat rw [zgI_sL]); (repeat rw [zgI_sI]); (repeat rw [zgL_sL]); (repeat rw [zgL_sI]); (repeat' split) <;> first | rfl | (exfalso; omega) | exact e | grind
  · intro r hr; have e := h.ro r hr; (repeat rw [zgI_sL]); (repeat rw [zgI_sI]); (repeat rw [zgL_sL]); (repeat rw [zgL_sI]); (repeat' split) <;> first | rfl | (exfalso; omega) | exact e | grind
  · intro a i hr; have e := h.fc a i hr; (repeat rw [zgI_sL]); (repeat rw [zgI_sI]); (repeat rw [zgL_sL]); (repeat rw [zgL_sI]); (repeat' split) <;> first | rfl | (exfalso; omega) | exact e | grind
  · intro r hr; have e := h.fb r hr; (repeat rw [zgI_sL]); (repeat rw [zgI_sI]); (repeat rw [zgL_sL]); (repeat rw [zgL_sI]); (repeat' split) <;> first | rfl | (exfalso; omega) | exact e | grind
  · intro a i hr; have e := h.fl a i hr; (repeat rw [zgI_sL]); (repeat rw [zgI_sI]); (repeat rw [zgL_sL]); (repeat rw [zgL_sI]); (repeat' split) <;> first | rfl | (exfalso; omega) | exact e | grind
  · exact h.fg
  · intro a i hr; have e := h.fm a i hr; (repeat rw [zgI_sL]); (repeat rw [zgI_sI]); (repeat rw [zgL_sL]); (repeat rw [zgL_sI]); (repeat' split) <;> first | rfl | (exfalso; omega) | exact e | grind
  · exact h.fh
  · have e := h.fz; (repeat rw [zgI_sL]); (repeat rw [zgI_sI]); (repeat rw [zgL_sL]); (repeat rw [zgL_sI]); (repeat' split) <;> first | rfl | (exfalso; omega) | exact e | grind
theorem zWal_p {b n : Nat} {c0 m0 c m : zz_W} (h : zWal b n c0 m0 c m) {s : Nat} (hs : s ≤ 49) : zWal b n c0 m0 (zsI c b 11 (nI s)) (zsI m 1 3 (nI s)) := by
  have hn10 := h.hn
  unfold zWal
  refine ⟨?_, ?_, ?_, ?_, ?_, ?_, ?_, ?_, ?_, ?_, ?_, ?_, ?_, ?_, ?_, ?_, ?_, ?_, ?_, ?_, ?_, ?_, ?_, ?_, ?_, ?_, ?_, ?_, ?_, ?_⟩
  · exact h.W
  · exact h.hn
  · have e := h.cz; (repeat rw [zgI_sL]); (repeat rw [zgI_sI]); (repeat rw [zgL_sL]); (repeat rw [zgL_sI]); (repeat' split) <;> first | rfl | (exfalso; omega) | exact e | grind
  · have e := h.cn; (repeat rw [zgI_sL]); (repeat rw [zgI_sI]); (repeat rw [zgL_sL]); (repeat rw [zgL_sI]); (repeat' split) <;> first | rfl | (exfalso; omega) | exact e | grind
  · have e := h.mn; (repeat rw [zgI_sL]); (repeat rw [zgI_sI]); (repeat rw [zgL_sL]); (repeat rw [zgL_sI]); (repeat' split) <;> first | rfl | (exfalso; omega) | exact e | grind
  · have e := h.cs; (repeat rw [zgI_sL]); (repeat rw [zgI_sI]); (repeat rw [zgL_sL]); (repeat rw [zgL_sI]); (repeat' split) <;> first | rfl | (exfalso; omega) | exact e | grind
  · have e := h.cp; (repeat rw [zgI_sL]); (repeat rw [zgI_sI]); (repeat rw [zgL_sL]); (repeat rw [zgL_sI]); (repeat' split) <;> first | rfl | (exfalso; omega) | exact e | grind
  · have e := h.cm; (repeat rw [zgI_sL]); (repeat rw [zgI_sI]); (repeat rw [zgL_sL]); (repeat rw [zgL_sI]); (repeat' split) <;> first | rfl | (exfalso; omega) | exact e | grind
  · intro r hr; have e := h.ct r hr; (repeat rw [zgI_sL]); (repeat rw [zgI_sI]); (repeat rw [zgL_sL]); (repeat rw [zgL_sI]); (repeat' split) <;> first | rfl | (exfalso; omega) | exact e | grind
  · have e := h.ctr; (repeat rw [zgI_sL]); (repeat rw [zgI_sI]); (repeat rw [zgL_sL]); (repeat rw [zgL_sI]); (repeat' split) <;> first | rfl | (exfalso; omega) | exact e | grind
  · have e := h.tr; (repeat rw [zgI_sL]); (repeat rw [zgI_sI]); (repeat rw [zgL_sL]); (repeat rw [zgL_sI]); (repeat' split) <;> first | rfl | (exfalso; omega) | exact e | grind
  · exact ⟨s, hs, by rw [zgI_sI, if_pos ⟨rfl, rfl⟩]⟩
  · intro r hr; have e := h.ck r hr; (repeat rw [zgI_sL]); (repeat rw [zgI_sI]); (repeat rw [zgL_sL]); (repeat rw [zgL_sI]); (repeat' split) <;> first | rfl | (exfalso; omega) | exact e | grind
  · intro r hr; have e := h.cc r hr; (repeat rw [zgI_sL]); (repeat rw [zgI_sI]); (repeat rw [zgL_sL]); (repeat rw [zgL_sI]); (repeat' split) <;> first | rfl | (exfalso; omega) | exact e | grind
  · intro r hr; have e := h.cl r hr; (repeat rw [zgI_sL]); (repeat rw [zgI_sI]); (repeat rw [zgL_sL]); (repeat rw [zgL_sI]); (repeat' split) <;> first | rfl | (exfalso; omega) | exact e | grind
  · intro r hr; have e := h.cd r hr; (repeat rw [zgI_sL]); (repeat rw [zgI_sI]); (repeat rw [zgL_sL]); (repeat rw [zgL_sI]); (repeat' split) <;> first | rfl | (exfalso; omega) | exact e | grind
  · intro r hr; have e := h.co r hr; (repeat rw [zgI_sL]); (repeat rw [zgI_sI]); (repeat rw [zgL_sL]); (repeat rw [zgL_sI]); (repeat' split) <;> first | rfl | (exfalso; omega) | exact e | grind
  · intro r hr; have e := h.cw r hr; (repeat rw [zgI_sL]); (repeat rw [zgI_sI]); (repeat rw [zgL_sL]); (repeat rw [zgL_sI]); (repeat' split) <;> first | rfl | (exfalso; omega) | exact e | grind
  · intro r hr; have e := h.rk r hr; (repeat rw [zgI_sL]); (repeat rw [zgI_sI]); (repeat rw [zgL_sL]); (repeat rw [zgL_sI]); (repeat' split) <;> first | rfl | (exfalso; omega) | exact e | grind
  · intro r hr; have e := h.rc r hr; (repeat rw [zgI_sL]); (repeat rw [zgI_sI]); (repeat rw [zgL_sL]); (repeat rw [zgL_sI]); (repeat' split) <;> first | rfl | (exfalso; omega) | exact e | grind
  · intro r hr; have e := h.rl r hr; (repeat rw [zgI_sL]); (repeat rw [zgI_sI]); (repeat rw [zgL_sL]); (repeat rw [zgL_sI]); (repeat' split) <;> first | rfl | (exfalso; omega) | exact e | grind
  · intro r hr; have e := h.rd r hr; (repeat rw [zgI_sL]); (repeat rw [zgI_sI]); (repeat rw [zgL_sL]); (repeat rw [zgL_sI]); (repeat' split) <;> first | rfl | (exfalso; omega) | exact e | grind
  · intro r hr; have e := h.ro r hr; (repeat rw [zgI_sL]); (repeat rw [zgI_sI]); (repeat rw [zgL_sL]); (repeat rw [zgL_sI]); (repeat' split) <;> first | rfl | (exfalso; omega) | exact e | grind
  · intro a i hr; have e := h.fc a i hr; (repeat rw [zgI_sL]); (repeat rw [zgI_sI]); (repeat rw [zgL_sL]); (repeat rw [zgL_sI]); (repeat' split) <;> first | rfl | (exfalso; omega) | exact e | grind
  · intro r hr; have e := h.fb r hr; (repeat rw [zgI_sL]); (repeat rw [zgI_sI]); (repeat rw [zgL_sL]); (repeat rw [zgL_sI]); (repeat' split) <;> first | rfl | (exfalso; omega) | exact e | grind
  · intro a i hr; have e := h.fl a i hr; (repeat rw [zgI_sL]); (repeat rw [zgI_sI]); (repeat rw [zgL_sL]); (repeat rw [zgL_sI]); (repeat' split) <;> first | rfl | (exfalso; omega) | exact e | grind
  · exact h.fg
  · intro a i hr; have e := h.fm a i hr; (repeat rw [zgI_sL]); (repeat rw [zgI_sI]); (repeat rw [zgL_sL]); (repeat rw [zgL_sI]); (repeat' split) <;> first | rfl | (exfalso; omega) | exact e | grind
  · exact h.fh
  · have e := h.fz; (repeat rw [zgI_sL]); (repeat rw [zgI_sI]); (repeat rw [zgL_sL]); (repeat rw [zgL_sI]); (repeat' split) <;> first | rfl | (exfalso; omega) | exact e | grind
theorem zWal_t {b n : Nat} {c0 m0 c m : zz_W} (h : zWal b n c0 m0 c m) {s : Nat} (hs : s < n) : zWal b n c0 m0 (zsI c b 10 (nI s)) (zsI m 1 12 (nI s)) := by
  have hn10 := h.hn
  unfold zWal
  refine ⟨?_, ?_, ?_, ?_, ?_, ?_, ?_, ?_, ?_, ?_, ?_, ?_, ?_, ?_, ?_, ?_, ?_, ?_, ?_, ?_, ?_, ?_, ?_, ?_, ?_, ?_, ?_, ?_, ?_, ?_⟩
  · exact h.W
  · exact h.hn
  · have e := h.cz; (repeat rw [zgI_sL]); (repeat rw [zgI_sI]); (repeat rw [zgL_sL]); (repeat rw [zgL_sI]); (repeat' split) <;> first | rfl | (exfalso; omega) | exact e | grind
  · have e := h.cn; (repeat rw [zgI_sL]); (repeat rw [zgI_sI]); (repeat rw [zgL_sL]); (repeat rw [zgL_sI]); (repeat' split) <;> first | rfl | (exfalso; omega) | exact e | grind
  · have e := h.mn; (repeat rw [zgI_sL]); (repeat rw [zgI_sI]); (repeat rw [zgL_sL]); (repeat rw [zgL_sI]); (repeat' split) <;> first | rfl | (exfalso; omega) | exact e | grind
  · have e := h.cs; (repeat rw [zgI_sL]); (repeat rw [zgI_sI]); (repeat rw [zgL_sL]); (repeat rw [zgL_sI]); (repeat' split) <;> first | rfl | (exfalso; omega) | exact e | grind
  · have e := h.cp; (repeat rw [zgI_sL]); (repeat rw [zgI_sI]); (repeat rw [zgL_sL]); (repeat rw [zgL_sI]); (repeat' split) <;> first | rfl | (exfalso; omega) | exact e | grind
  · have e := h.cm; (repeat rw [zgI_sL]); (repeat rw [zgI_sI]); (repeat rw [zgL_sL]); (repeat rw [zgL_sI]); (repeat' split) <;> first | rfl | (exfalso; omega) | exact e | grind
  · intro r hr; have e := h.ct r hr; (repeat rw [zgI_sL]); (repeat rw [zgI_sI]); (repeat rw [zgL_sL]); (repeat rw [zgL_sI]); (repeat' split) <;> first | rfl | (exfalso; omega) | exact e | grind
  · have e := h.ctr; (repeat rw [zgI_sL]); (repeat rw [zgI_sI]); (repeat rw [zgL_sL]); (repeat rw [zgL_sI]); (repeat' split) <;> first | rfl | (exfalso; omega) | exact e | grind
  · exact Or.inr ⟨s, hs, by rw [zgI_sI, if_pos ⟨rfl, rfl⟩]⟩
  · have e := h.sl; (repeat rw [zgI_sL]); (repeat rw [zgI_sI]); (repeat rw [zgL_sL]); (repeat rw [zgL_sI]); (repeat' split) <;> first | rfl | (exfalso; omega) | exact e | grind
  · intro r hr; have e := h.ck r hr; (repeat rw [zgI_sL]); (repeat rw [zgI_sI]); (repeat rw [zgL_sL]); (repeat rw [zgL_sI]); (repeat' split) <;> first | rfl | (exfalso; omega) | exact e | grind
  · intro r hr; have e := h.cc r hr; (repeat rw [zgI_sL]); (repeat rw [zgI_sI]); (repeat rw [zgL_sL]); (repeat rw [zgL_sI]); (repeat' split) <;> first | rfl | (exfalso; omega) | exact e | grind
  · intro r hr; have e := h.cl r hr; (repeat rw [zgI_sL]); (repeat rw [zgI_sI]); (repeat rw [zgL_sL]); (repeat rw [zgL_sI]); (repeat' split) <;> first | rfl | (exfalso; omega) | exact e | grind
  · intro r hr; have e := h.cd r hr; (repeat rw [zgI_sL]); (repeat rw [zgI_sI]); (repeat rw [zgL_sL]); (repeat rw [zgL_sI]); (repeat' split) <;> first | rfl | (exfalso; omega) | exact e | grind
  · intro r hr; have e := h.co r hr; (repeat rw [zgI_sL]); (repeat rw [zgI_sI]); (repeat rw [zgL_sL]); (repeat rw [zgL_sI]); (repeat' split) <;> first | rfl | (exfalso; omega) | exact e | grind
  · intro r hr; have e := h.cw r hr; (repeat rw [zgI_sL]); (repeat rw [zgI_sI]); (repeat rw [zgL_sL]); (repeat rw [zgL_sI]); (repeat' split) <;> first | rfl | (exfalso; omega) | exact e | grind
  · intro r hr; have e := h.rk r hr; (repeat rw [zgI_sL]); (repeat rw [zgI_sI]); (repeat rw [zgL_sL]); (repeat rw [zgL_sI]); (repeat' split) <;> first | rfl | (exfalso; omega) | exact e | grind
  · intro r hr; have e := h.rc r hr; (repeat rw [zgI_sL]); (repeat rw [zgI_sI]); (repeat rw [zgL_sL]); (repeat rw [zgL_sI]); (repeat' split) <;> first | rfl | (exfalso; omega) | exact e | grind
  · intro r hr; have e := h.rl r hr; (repeat rw [zgI_sL]); (repeat rw [zgI_sI]); (repeat rw [zgL_sL]); (repeat rw [zgL_sI]); (repeat' split) <;> first | rfl | (exfalso; omega) | exact e | grind
  · intro r hr; have e := h.rd r hr; (repeat rw [zgI_sL]); (repeat rw [zgI_sI]); (repeat rw [zgL_sL]); (repeat rw [zgL_sI]); (repeat' split) <;> first | rfl | (exfalso; omega) | exact e | grind
  · intro r hr; have e := h.ro r hr; (repeat rw [zgI_sL]); (repeat rw [zgI_sI]); (repeat rw [zgL_sL]); (repeat rw [zgL_sI]); (repeat' split) <;> first | rfl | (exfalso; omega) | exact e | grind
  · intro a i hr; have e := h.fc a i hr; (repeat rw [zgI_sL]); (repeat rw [zgI_sI]); (repeat rw [zgL_sL]); (repeat rw [zgL_sI]); (repeat' split) <;> first | rfl | (exfalso; omega) | exact e | grind
  · intro r hr; have e := h.fb r hr; (repeat rw [zgI_sL]); (repeat rw [zgI_sI]); (repeat rw [zgL_sL]); (repeat rw [zgL_sI]); (repeat' split) <;> first | rfl | (exfalso; omega) | exact e | grind
  · intro a i hr; have e := h.fl a i hr; (repeat rw [zgI_sL]); (repeat rw [zgI_sI]); (repeat rw [zgL_sL]); (repeat rw [zgL_sI]); (repeat' split) <;> first | rfl | (exfalso; omega) | exact e | grind
  · exact h.fg
  · intro a i hr; have e := h.fm a i hr; (repeat rw [zgI_sL]); (repeat rw [zgI_sI]); (repeat rw [zgL_sL]); (repeat rw [zgL_sI]); (repeat' split) <;> first | rfl | (exfalso; omega) | exact e | grind
  · exact h.fh
  · intro _; rw [zgI_sI, if_pos ⟨rfl, rfl⟩]; exact nI_pos' (by omega)
theorem zWal_y {b n : Nat} {c0 m0 c m : zz_W} (h : zWal b n c0 m0 c m) {j : Nat} (hj : j < 7) (v : Int32) : zWal b n c0 m0 (zsI c (b + 7) j v) (zsI m 1 (5 + j) v) := by
  have hn10 := h.hn
  unfold zWal
  refine ⟨?_, ?_, ?_, ?_, ?_, ?_, ?_, ?_, ?_, ?_, ?_, ?_, ?_, ?_, ?_, ?_, ?_, ?_, ?_, ?_, ?_, ?_, ?_, ?_, ?_, ?_, ?_, ?_, ?_, ?_⟩
  · exact h.W
  · exact h.hn
  · have e := h.cz; (repeat rw [zgI_sL]); (repeat rw [zgI_sI]); (repeat rw [zgL_sL]); (repeat rw [zgL_sI]); (repeat' split) <;> first | rfl | (exfalso; omega) | exact e | grind
  · have e := h.cn; (repeat rw [zgI_sL]); (repeat rw [zgI_sI]); (repeat rw [zgL_sL]); (repeat rw [zgL_sI]); (repeat' split) <;> first | rfl | (exfalso; omega) | exact e | grind
  · have e := h.mn; (repeat rw [zgI_sL]); (repeat rw [zgI_sI]); (repeat rw [zgL_sL]); (repeat rw [zgL_sI]); (repeat' split) <;> first | rfl | (exfalso; omega) | exact e | grind
  · have e := h.cs; (repeat rw [zgI_sL]); (repeat rw [zgI_sI]); (repeat rw [zgL_sL]); (repeat rw [zgL_sI]); (repeat' split) <;> first | rfl | (exfalso; omega) | exact e | grind
  · have e := h.cp; (repeat rw [zgI_sL]); (repeat rw [zgI_sI]); (repeat rw [zgL_sL]); (repeat rw [zgL_sI]); (repeat' split) <;> first | rfl | (exfalso; omega) | exact e | grind
  · have e := h.cm; (repeat rw [zgI_sL]); (repeat rw [zgI_sI]); (repeat rw [zgL_sL]); (repeat rw [zgL_sI]); (repeat' split) <;> first | rfl | (exfalso; omega) | exact e | grind
  · intro r hr; have e := h.ct r hr; (repeat rw [zgI_sL]); (repeat rw [zgI_sI]); (repeat rw [zgL_sL]); (repeat rw [zgL_sI]); (repeat' split) <;> first | rfl | (exfalso; omega) | exact e | grind
  · have e := h.ctr; (repeat rw [zgI_sL]); (repeat rw [zgI_sI]); (repeat rw [zgL_sL]); (repeat rw [zgL_sI]); (repeat' split) <;> first | rfl | (exfalso; omega) | exact e | grind
  · have e := h.tr; (repeat rw [zgI_sL]); (repeat rw [zgI_sI]); (repeat rw [zgL_sL]); (repeat rw [zgL_sI]); (repeat' split) <;> first | rfl | (exfalso; omega) | exact e | grind
  · have e := h.sl; (repeat rw [zgI_sL]); (repeat rw [zgI_sI]); (repeat rw [zgL_sL]); (repeat rw [zgL_sI]); (repeat' split) <;> first | rfl | (exfalso; omega) | exact e | grind
  · intro r hr; have e := h.ck r hr; (repeat rw [zgI_sL]); (repeat rw [zgI_sI]); (repeat rw [zgL_sL]); (repeat rw [zgL_sI]); (repeat' split) <;> first | rfl | (exfalso; omega) | exact e | grind
  · intro r hr; have e := h.cc r hr; (repeat rw [zgI_sL]); (repeat rw [zgI_sI]); (repeat rw [zgL_sL]); (repeat rw [zgL_sI]); (repeat' split) <;> first | rfl | (exfalso; omega) | exact e | grind
  · intro r hr; have e := h.cl r hr; (repeat rw [zgI_sL]); (repeat rw [zgI_sI]); (repeat rw [zgL_sL]); (repeat rw [zgL_sI]); (repeat' split) <;> first | rfl | (exfalso; omega) | exact e | grind
  · intro r hr; have e := h.cd r hr; (repeat rw [zgI_sL]); (repeat rw [zgI_sI]); (repeat rw [zgL_sL]); (repeat rw [zgL_sI]); (repeat' split) <;> first | rfl | (exfalso; omega) | exact e | grind
  · intro r hr; have e := h.co r hr; (repeat rw [zgI_sL]); (repeat rw [zgI_sI]); (repeat rw [zgL_sL]); (repeat rw [zgL_sI]); (repeat' split) <;> first | rfl | (exfalso; omega) | exact e | grind
  · intro r hr; have e := h.cw r hr; (repeat rw [zgI_sL]); (repeat rw [zgI_sI]); (repeat rw [zgL_sL]); (repeat rw [zgL_sI]); (repeat' split) <;> first | rfl | (exfalso; omega) | exact e | grind
  · intro r hr; have e := h.rk r hr; (repeat rw [zgI_sL]); (repeat rw [zgI_sI]); (repeat rw [zgL_sL]); (repeat rw [zgL_sI]); (repeat' split) <;> first | rfl | (exfalso; omega) | exact e | grind
  · intro r hr; have e := h.rc r hr; (repeat rw [zgI_sL]); (repeat rw [zgI_sI]); (repeat rw [zgL_sL]); (repeat rw [zgL_sI]); (repeat' split) <;> first | rfl | (exfalso; omega) | exact e | grind
  · intro r hr; have e := h.rl r hr; (repeat rw [zgI_sL]); (repeat rw [zgI_sI]); (repeat rw [zgL_sL]); (repeat rw [zgL_sI]); (repeat' split) <;> first | rfl | (exfalso; omega) | exact e | grind
  · intro r hr; have e := h.rd r hr; (repeat rw [zgI_sL]); (repeat rw [zgI_sI]); (repeat rw [zgL_sL]); (repeat rw [zgL_sI]); (repeat' split) <;> first | rfl | (exfalso; omega) | exact e | grind
  · intro r hr; have e := h.ro r hr; (repeat rw [zgI_sL]); (repeat rw [zgI_sI]); (repeat rw [zgL_sL]); (repeat rw [zgL_sI]); (repeat' split) <;> first | rfl | (exfalso; omega) | exact e | grind
  · intro a i hr; have e := h.fc a i hr; (repeat rw [zgI_sL]); (repeat rw [zgI_sI]); (repeat rw [zgL_sL]); (repeat rw [zgL_sI]); (repeat' split) <;> first | rfl | (exfalso; omega) | exact e | grind
  · intro r hr; have e := h.fb r hr; (repeat rw [zgI_sL]); (repeat rw [zgI_sI]); (repeat rw [zgL_sL]); (repeat rw [zgL_sI]); (repeat' split) <;> first | rfl | (exfalso; omega) | exact e | grind
  · intro a i hr; have e := h.fl a i hr; (repeat rw [zgI_sL]); (repeat rw [zgI_sI]); (repeat rw [zgL_sL]); (repeat rw [zgL_sI]); (repeat' split) <;> first | rfl | (exfalso; omega) | exact e | grind
  · exact h.fg
  · intro a i hr; have e := h.fm a i hr; (repeat rw [zgI_sL]); (repeat rw [zgI_sI]); (repeat rw [zgL_sL]); (repeat rw [zgL_sI]); (repeat' split) <;> first | rfl | (exfalso; omega) | exact e | grind
  · exact h.fh
  · have e := h.fz; (repeat rw [zgI_sL]); (repeat rw [zgI_sI]); (repeat rw [zgL_sL]); (repeat rw [zgL_sI]); (repeat' split) <;> first | rfl | (exfalso; omega) | exact e | grind
theorem zWal_o {b n : Nat} {c0 m0 c m : zz_W} (h : zWal b n c0 m0 c m) {s x : Nat} (hs : s < n) (hx : x ≤ 99000) : zWal b n c0 m0 (zsI c (b + 5) s (nI x)) (zsI m 1 (18 + 5 * s) (nI x)) := by
  have hn10 := h.hn
  unfold zWal
  refine ⟨?_, ?_, ?_, ?_, ?_, ?_, ?_, ?_, ?_, ?_, ?_, ?_, ?_, ?_, ?_, ?_, ?_, ?_, ?_, ?_, ?_, ?_, ?_, ?_, ?_, ?_, ?_, ?_, ?_, ?_⟩
  · exact h.W
  · exact h.hn
  · have e := h.cz; (repeat rw [zgI_sL]); (repeat rw [zgI_sI]); (repeat rw [zgL_sL]); (repeat rw [zgL_sI]); (repeat' split) <;> first | rfl | (exfalso; omega) | exact e | grind
  · have e := h.cn; (repeat rw [zgI_sL]); (repeat rw [zgI_sI]); (repeat rw [zgL_sL]); (repeat rw [zgL_sI]); (repeat' split) <;> first | rfl | (exfalso; omega) | exact e | grind
  · have e := h.mn; (repeat rw [zgI_sL]); (repeat rw [zgI_sI]); (repeat rw [zgL_sL]); (repeat rw [zgL_sI]); (repeat' split) <;> first | rfl | (exfalso; omega) | exact e | grind
  · have e := h.cs; (repeat rw [zgI_sL]); (repeat rw [zgI_sI]); (repeat rw [zgL_sL]); (repeat rw [zgL_sI]); (repeat' split) <;> first | rfl | (exfalso; omega) | exact e | grind
  · have e := h.cp; (repeat rw [zgI_sL]); (repeat rw [zgI_sI]); (repeat rw [zgL_sL]); (repeat rw [zgL_sI]); (repeat' split) <;> first | rfl | (exfalso; omega) | exact e | grind
  · have e := h.cm; (repeat rw [zgI_sL]); (repeat rw [zgI_sI]); (repeat rw [zgL_sL]); (repeat rw [zgL_sI]); (repeat' split) <;> first | rfl | (exfalso; omega) | exact e | grind
  · intro r hr; have e := h.ct r hr; (repeat rw [zgI_sL]); (repeat rw [zgI_sI]); (repeat rw [zgL_sL]); (repeat rw [zgL_sI]); (repeat' split) <;> first | rfl | (exfalso; omega) | exact e | grind
  · have e := h.ctr; (repeat rw [zgI_sL]); (repeat rw [zgI_sI]); (repeat rw [zgL_sL]); (repeat rw [zgL_sI]); (repeat' split) <;> first | rfl | (exfalso; omega) | exact e | grind
  · have e := h.tr; (repeat rw [zgI_sL]); (repeat rw [zgI_sI]); (repeat rw [zgL_sL]); (repeat rw [zgL_sI]); (repeat' split) <;> first | rfl | (exfalso; omega) | exact e | grind
  · have e := h.sl; (repeat rw [zgI_sL]); (repeat rw [zgI_sI]); (repeat rw [zgL_sL]); (repeat rw [zgL_sI]); (repeat' split) <;> first | rfl | (exfalso; omega) | exact e | grind
  · intro r hr; have e := h.ck r hr; (repeat rw [zgI_sL]); (repeat rw [zgI_sI]); (repeat rw [zgL_sL]); (repeat rw [zgL_sI]); (repeat' split) <;> first | rfl | (exfalso; omega) | exact e | grind
  · intro r hr; have e := h.cc r hr; (repeat rw [zgI_sL]); (repeat rw [zgI_sI]); (repeat rw [zgL_sL]); (repeat rw [zgL_sI]); (repeat' split) <;> first | rfl | (exfalso; omega) | exact e | grind
  · intro r hr; have e := h.cl r hr; (repeat rw [zgI_sL]); (repeat rw [zgI_sI]); (repeat rw [zgL_sL]); (repeat rw [zgL_sI]); (repeat' split) <;> first | rfl | (exfalso; omega) | exact e | grind
  · intro r hr; have e := h.cd r hr; (repeat rw [zgI_sL]); (repeat rw [zgI_sI]); (repeat rw [zgL_sL]); (repeat rw [zgL_sI]); (repeat' split) <;> first | rfl | (exfalso; omega) | exact e | grind
  · intro r hr; have e := h.co r hr; (repeat rw [zgI_sL]); (repeat rw [zgI_sI]); (repeat rw [zgL_sL]); (repeat rw [zgL_sI]); (repeat' split) <;> first | rfl | (exfalso; omega) | exact e | grind
  · intro r hr; have e := h.cw r hr; (repeat rw [zgI_sL]); (repeat rw [zgI_sI]); (repeat rw [zgL_sL]); (repeat rw [zgL_sI]); (repeat' split) <;> first | rfl | (exfalso; omega) | exact e | grind
  · intro r hr; have e := h.rk r hr; (repeat rw [zgI_sL]); (repeat rw [zgI_sI]); (repeat rw [zgL_sL]); (repeat rw [zgL_sI]); (repeat' split) <;> first | rfl | (exfalso; omega) | exact e | grind
  · intro r hr; have e := h.rc r hr; (repeat rw [zgI_sL]); (repeat rw [zgI_sI]); (repeat rw [zgL_sL]); (repeat rw [zgL_sI]); (repeat' split) <;> first | rfl | (exfalso; omega) | exact e | grind
  · intro r hr; have e := h.rl r hr; (repeat rw [zgI_sL]); (repeat rw [zgI_sI]); (repeat rw [zgL_sL]); (repeat rw [zgL_sI]); (repeat' split) <;> first | rfl | (exfalso; omega) | exact e | grind
  · intro r hr; have e := h.rd r hr; (repeat rw [zgI_sL]); (repeat rw [zgI_sI]); (repeat rw [zgL_sL]); (repeat rw [zgL_sI]); (repeat' split) <;> first | rfl | (exfalso; omega) | exact e | grind
  · intro r hr; rw [zgI_sI]; split; (· exact ⟨x, hx, rfl⟩); (· exact h.ro r hr)
  · intro a i hr; have e := h.fc a i hr; (repeat rw [zgI_sL]); (repeat rw [zgI_sI]); (repeat rw [zgL_sL]); (repeat rw [zgL_sI]); (repeat' split) <;> first | rfl | (exfalso; omega) | exact e | grind
  · intro r hr; have e := h.fb r hr; (repeat rw [zgI_sL]); (repeat rw [zgI_sI]); (repeat rw [zgL_sL]); (repeat rw [zgL_sI]); (repeat' split) <;> first | rfl | (exfalso; omega) | exact e | grind
  · intro a i hr; have e := h.fl a i hr; (repeat rw [zgI_sL]); (repeat rw [zgI_sI]); (repeat rw [zgL_sL]); (repeat rw [zgL_sI]); (repeat' split) <;> first | rfl | (exfalso; omega) | exact e | grind
  · exact h.fg
  · intro a i hr; have e := h.fm a i hr; (repeat rw [zgI_sL]); (repeat rw [zgI_sI]); (repeat rw [zgL_sL]); (repeat rw [zgL_sI]); (repeat' split) <;> first | rfl | (exfalso; omega) | exact e | grind
  · exact h.fh
  · have e := h.fz; (repeat rw [zgI_sL]); (repeat rw [zgI_sI]); (repeat rw [zgL_sL]); (repeat rw [zgL_sI]); (repeat' split) <;> first | rfl | (exfalso; omega) | exact e | grind
theorem zWal_l {b n : Nat} {c0 m0 c m : zz_W} (h : zWal b n c0 m0 c m) {s x : Nat} (hs : s < n) (h1 : 1 ≤ x) (hx : x ≤ 99) : zWal b n c0 m0 (zsI c (b + 3) s (nI x)) (zsI m 1 (16 + 5 * s) (nI x)) := by
  have hn10 := h.hn
  unfold zWal
  refine ⟨?_, ?_, ?_, ?_, ?_, ?_, ?_, ?_, ?_, ?_, ?_, ?_, ?_, ?_, ?_, ?_, ?_, ?_, ?_, ?_, ?_, ?_, ?_, ?_, ?_, ?_, ?_, ?_, ?_, ?_⟩
  · exact h.W
  · exact h.hn
  · have e := h.cz; (repeat rw [zgI_sL]); (repeat rw [zgI_sI]); (repeat rw [zgL_sL]); (repeat rw [zgL_sI]); (repeat' split) <;> first | rfl | (exfalso; omega) | exact e | grind
  · have e := h.cn; (repeat rw [zgI_sL]); (repeat rw [zgI_sI]); (repeat rw [zgL_sL]); (repeat rw [zgL_sI]); (repeat' split) <;> first | rfl | (exfalso; omega) | exact e | grind
  · have e := h.mn; (repeat rw [zgI_sL]); (repeat rw [zgI_sI]); (repeat rw [zgL_sL]); (repeat rw [zgL_sI]); (repeat' split) <;> first | rfl | (exfalso; omega) | exact e | grind
  · have e := h.cs; (repeat rw [zgI_sL]); (repeat rw [zgI_sI]); (repeat rw [zgL_sL]); (repeat rw [zgL_sI]); (repeat' split) <;> first | rfl | (exfalso; omega) | exact e | grind
  · have e := h.cp; (repeat rw [zgI_sL]); (repeat rw [zgI_sI]); (repeat rw [zgL_sL]); (repeat rw [zgL_sI]); (repeat' split) <;> first | rfl | (exfalso; omega) | exact e | grind
  · have e := h.cm; (repeat rw [zgI_sL]); (repeat rw [zgI_sI]); (repeat rw [zgL_sL]); (repeat rw [zgL_sI]); (repeat' split) <;> first | rfl | (exfalso; omega) | exact e | grind
  · intro r hr; have e := h.ct r hr; (repeat rw [zgI_sL]); (repeat rw [zgI_sI]); (repeat rw [zgL_sL]); (repeat rw [zgL_sI]); (repeat' split) <;> first | rfl | (exfalso; omega) | exact e | grind
  · have e := h.ctr; (repeat rw [zgI_sL]); (repeat rw [zgI_sI]); (repeat rw [zgL_sL]); (repeat rw [zgL_sI]); (repeat' split) <;> first | rfl | (exfalso; omega) | exact e | grind
  · have e := h.tr; (repeat rw [zgI_sL]); (repeat rw [zgI_sI]); (repeat rw [zgL_sL]); (repeat rw [zgL_sI]); (repeat' split) <;> first | rfl | (exfalso; omega) | exact e | grind
  · have e := h.sl; (repeat rw [zgI_sL]); (repeat rw [zgI_sI]); (repeat rw [zgL_sL]); (repeat rw [zgL_sI]); (repeat' split) <;> first | rfl | (exfalso; omega) | exact e | grind
  · intro r hr; have e := h.ck r hr; (repeat rw [zgI_sL]); (repeat rw [zgI_sI]); (repeat rw [zgL_sL]); (repeat rw [zgL_sI]); (repeat' split) <;> first | rfl | (exfalso; omega) | exact e | grind
  · intro r hr; have e := h.cc r hr; (repeat rw [zgI_sL]); (repeat rw [zgI_sI]); (repeat rw [zgL_sL]); (repeat rw [zgL_sI]); (repeat' split) <;> first | rfl | (exfalso; omega) | exact e | grind
  · intro r hr; have e := h.cl r hr; (repeat rw [zgI_sL]); (repeat rw [zgI_sI]); (repeat rw [zgL_sL]); (repeat rw [zgL_sI]); (repeat' split) <;> first | rfl | (exfalso; omega) | exact e | grind
  · intro r hr; have e := h.cd r hr; (repeat rw [zgI_sL]); (repeat rw [zgI_sI]); (repeat rw [zgL_sL]); (repeat rw [zgL_sI]); (repeat' split) <;> first | rfl | (exfalso; omega) | exact e | grind
  · intro r hr; have e := h.co r hr; (repeat rw [zgI_sL]); (repeat rw [zgI_sI]); (repeat rw [zgL_sL]); (repeat rw [zgL_sI]); (repeat' split) <;> first | rfl | (exfalso; omega) | exact e | grind
  · intro r hr; have e := h.cw r hr; (repeat rw [zgI_sL]); (repeat rw [zgI_sI]); (repeat rw [zgL_sL]); (repeat rw [zgL_sI]); (repeat' split) <;> first | rfl | (exfalso; omega) | exact e | grind
  · intro r hr; have e := h.rk r hr; (repeat rw [zgI_sL]); (repeat rw [zgI_sI]); (repeat rw [zgL_sL]); (repeat rw [zgL_sI]); (repeat' split) <;> first | rfl | (exfalso; omega) | exact e | grind
  · intro r hr; have e := h.rc r hr; (repeat rw [zgI_sL]); (repeat rw [zgI_sI]); (repeat rw [zgL_sL]); (repeat rw [zgL_sI]); (repeat' split) <;> first | rfl | (exfalso; omega) | exact e | grind
  · intro r hr; rw [zgI_sI]; split; (· exact ⟨x, h1, hx, rfl⟩); (· exact h.rl r hr)
  · intro r hr; have e := h.rd r hr; (repeat rw [zgI_sL]); (repeat rw [zgI_sI]); (repeat rw [zgL_sL]); (repeat rw [zgL_sI]); (repeat' split) <;> first | rfl | (exfalso; omega) | exact e | grind
  · intro r hr; have e := h.ro r hr; (repeat rw [zgI_sL]); (repeat rw [zgI_sI]); (repeat rw [zgL_sL]); (repeat rw [zgL_sI]); (repeat' split) <;> first | rfl | (exfalso; omega) | exact e | grind
  · intro a i hr; have e := h.fc a i hr; (repeat rw [zgI_sL]); (repeat rw [zgI_sI]); (repeat rw [zgL_sL]); (repeat rw [zgL_sI]); (repeat' split) <;> first | rfl | (exfalso; omega) | exact e | grind
  · intro r hr; have e := h.fb r hr; (repeat rw [zgI_sL]); (repeat rw [zgI_sI]); (repeat rw [zgL_sL]); (repeat rw [zgL_sI]); (repeat' split) <;> first | rfl | (exfalso; omega) | exact e | grind
  · intro a i hr; have e := h.fl a i hr; (repeat rw [zgI_sL]); (repeat rw [zgI_sI]); (repeat rw [zgL_sL]); (repeat rw [zgL_sI]); (repeat' split) <;> first | rfl | (exfalso; omega) | exact e | grind
  · exact h.fg
  · intro a i hr; have e := h.fm a i hr; (repeat rw [zgI_sL]); (repeat rw [zgI_sI]); (repeat rw [zgL_sL]); (repeat rw [zgL_sI]); (repeat' split) <;> first | rfl | (exfalso; omega) | exact e | grind
  · exact h.fh
  · have e := h.fz; (repeat rw [zgI_sL]); (repeat rw [zgI_sI]); (repeat rw [zgL_sL]); (repeat rw [zgL_sI]); (repeat' split) <;> first | rfl | (exfalso; omega) | exact e | grind
theorem zWal_d {b n : Nat} {c0 m0 c m : zz_W} (h : zWal b n c0 m0 c m) {s x : Nat} (hs : s < n) (h1 : 1 ≤ x) (hx : x ≤ 9) : zWal b n c0 m0 (zsI c (b + 4) s (nI x)) (zsI m 1 (17 + 5 * s) (nI x)) := by
  have hn10 := h.hn
  unfold zWal
  refine ⟨?_, ?_, ?_, ?_, ?_, ?_, ?_, ?_, ?_, ?_, ?_, ?_, ?_, ?_, ?_, ?_, ?_, ?_, ?_, ?_, ?_, ?_, ?_, ?_, ?_, ?_, ?_, ?_, ?_, ?_⟩
  · exact h.W
  · exact h.hn
  · have e := h.cz; (repeat rw [zgI_sL]); (repeat rw [zgI_sI]); (repeat rw [zgL_sL]); (repeat rw [zgL_sI]); (repeat' split) <;> first | rfl | (exfalso; omega) | exact e | grind
  · have e := h.cn; (repeat rw [zgI_sL]); (repeat rw [zgI_sI]); (repeat rw [zgL_sL]); (repeat rw [zgL_sI]); (repeat' split) <;> first | rfl | (exfalso; omega) | exact e | grind
  · have e := h.mn; (repeat rw [zgI_sL]); (repeat rw [zgI_sI]); (repeat rw [zgL_sL]); (repeat rw [zgL_sI]); (repeat' split) <;> first | rfl | (exfalso; omega) | exact e | grind
  · have e := h.cs; (repeat rw [zgI_sL]); (repeat rw [zgI_sI]); (repeat rw [zgL_sL]); (repeat rw [zgL_sI]); (repeat' split) <;> first | rfl | (exfalso; omega) | exact e | grind
  · have e := h.cp; (repeat rw [zgI_sL]); (repeat rw [zgI_sI]); (repeat rw [zgL_sL]); (repeat rw [zgL_sI]); (repeat' split) <;> first | rfl | (exfalso; omega) | exact e | grind
  · have e := h.cm; (repeat rw [zgI_sL]); (repeat rw [zgI_sI]); (repeat rw [zgL_sL]); (repeat rw [zgL_sI]); (repeat' split) <;> first | rfl | (exfalso; omega) | exact e | grind
  · intro r hr; have e := h.ct r hr; (repeat rw [zgI_sL]); (repeat rw [zgI_sI]); (repeat rw [zgL_sL]); (repeat rw [zgL_sI]); (repeat' split) <;> first | rfl | (exfalso; omega) | exact e | grind
  · have e := h.ctr; (repeat rw [zgI_sL]); (repeat rw [zgI_sI]); (repeat rw [zgL_sL]); (repeat rw [zgL_sI]); (repeat' split) <;> first | rfl | (exfalso; omega) | exact e | grind
  · have e := h.tr; (repeat rw [zgI_sL]); (repeat rw [zgI_sI]); (repeat rw [zgL_sL]); (repeat rw [zgL_sI]); (repeat' split) <;> first | rfl | (exfalso; omega) | exact e | grind
  · have e := h.sl; (repeat rw [zgI_sL]); (repeat rw [zgI_sI]); (repeat rw [zgL_sL]); (repeat rw [zgL_sI]); (repeat' split) <;> first | rfl | (exfalso; omega) | exact e | grind
  · intro r hr; have e := h.ck r hr; (repeat rw [zgI_sL]); (repeat rw [zgI_sI]); (repeat rw [zgL_sL]); (repeat rw [zgL_sI]); (repeat' split) <;> first | rfl | (exfalso; omega) | exact e | grind
  · intro r hr; have e := h.cc r hr; (repeat rw [zgI_sL]); (repeat rw [zgI_sI]); (repeat rw [zgL_sL]); (repeat rw [zgL_sI]); (repeat' split) <;> first | rfl | (exfalso; omega) | exact e | grind
  · intro r hr; have e := h.cl r hr; (repeat rw [zgI_sL]); (repeat rw [zgI_sI]); (repeat rw [zgL_sL]); (repeat rw [zgL_sI]); (repeat' split) <;> first | rfl | (exfalso; omega) | exact e | grind
  · intro r hr; have e := h.cd r hr; (repeat rw [zgI_sL]); (repeat rw [zgI_sI]); (repeat rw [zgL_sL]); (repeat rw [zgL_sI]); (repeat' split) <;> first | rfl | (exfalso; omega) | exact e | grind
  · intro r hr; have e := h.co r hr; (repeat rw [zgI_sL]); (repeat rw [zgI_sI]); (repeat rw [zgL_sL]); (repeat rw [zgL_sI]); (repeat' split) <;> first | rfl | (exfalso; omega) | exact e | grind
  · intro r hr; have e := h.cw r hr; (repeat rw [zgI_sL]); (repeat rw [zgI_sI]); (repeat rw [zgL_sL]); (repeat rw [zgL_sI]); (repeat' split) <;> first | rfl | (exfalso; omega) | exact e | grind
  · intro r hr; have e := h.rk r hr; (repeat rw [zgI_sL]); (repeat rw [zgI_sI]); (repeat rw [zgL_sL]); (repeat rw [zgL_sI]); (repeat' split) <;> first | rfl | (exfalso; omega) | exact e | grind
  · intro r hr; have e := h.rc r hr; (repeat rw [zgI_sL]); (repeat rw [zgI_sI]); (repeat rw [zgL_sL]); (repeat rw [zgL_sI]); (repeat' split) <;> first | rfl | (exfalso; omega) | exact e | grind
  · intro r hr; have e := h.rl r hr; (repeat rw [zgI_sL]); (repeat rw [zgI_sI]); (repeat rw [zgL_sL]); (repeat rw [zgL_sI]); (repeat' split) <;> first | rfl | (exfalso; omega) | exact e | grind
  · intro r hr; rw [zgI_sI]; split; (· exact ⟨x, h1, hx, rfl⟩); (· exact h.rd r hr)
  · intro r hr; have e := h.ro r hr; (repeat rw [zgI_sL]); (repeat rw [zgI_sI]); (repeat rw [zgL_sL]); (repeat rw [zgL_sI]); (repeat' split) <;> first | rfl | (exfalso; omega) | exact e | grind
  · intro a i hr; have e := h.fc a i hr; (repeat rw [zgI_sL]); (repeat rw [zgI_sI]); (repeat rw [zgL_sL]); (repeat rw [zgL_sI]); (repeat' split) <;> first | rfl | (exfalso; omega) | exact e | grind
  · intro r hr; have e := h.fb r hr; (repeat rw [zgI_sL]); (repeat rw [zgI_sI]); (repeat rw [zgL_sL]); (repeat rw [zgL_sI]); (repeat' split) <;> first | rfl | (exfalso; omega) | exact e | grind
  · intro a i hr; have e := h.fl a i hr; (repeat rw [zgI_sL]); (repeat rw [zgI_sI]); (repeat rw [zgL_sL]); (repeat rw [zgL_sI]); (repeat' split) <;> first | rfl | (exfalso; omega) | exact e | grind
  · exact h.fg
  · intro a i hr; have e := h.fm a i hr; (repeat rw [zgI_sL]); (repeat rw [zgI_sI]); (repeat rw [zgL_sL]); (repeat rw [zgL_sI]); (repeat' split) <;> first | rfl | (exfalso; omega) | exact e | grind
  · exact h.fh
  · have e := h.fz; (repeat rw [zgI_sL]); (repeat rw [zgI_sI]); (repeat rw [zgL_sL]); (repeat rw [zgL_sI]); (repeat' split) <;> first | rfl | (exfalso; omega) | exact e | grind
theorem zWal_shape {b n : Nat} {c0 m0 c m : zz_W} (h : zWal b n c0 m0 c m) {s x y : Nat} (hs : s < n) (hx : x < 6) (hy : y < 36) : zWal b n c0 m0 (zsL (zsI (zsI c (b + 1) s (nI x)) (b + 2) s (nI y)) (b + 6) s (zways (nI x) (nI y))) (zsI (zsI m 1 (14 + 5 * s) (nI x)) 1 (15 + 5 * s) (nI y)) := by
  have hn10 := h.hn
  unfold zWal
  refine ⟨?_, ?_, ?_, ?_, ?_, ?_, ?_, ?_, ?_, ?_, ?_, ?_, ?_, ?_, ?_, ?_, ?_, ?_, ?_, ?_, ?_, ?_, ?_, ?_, ?_, ?_, ?_, ?_, ?_, ?_⟩
  · exact h.W
  · exact h.hn
  · have e := h.cz; (repeat rw [zgI_sL]); (repeat rw [zgI_sI]); (repeat rw [zgL_sL]); (repeat rw [zgL_sI]); (repeat' split) <;> first | rfl | (exfalso; omega) | exact e | grind
  · have e := h.cn; (repeat rw [zgI_sL]); (repeat rw [zgI_sI]); (repeat rw [zgL_sL]); (repeat rw [zgL_sI]); (repeat' split) <;> first | rfl | (exfalso; omega) | exact e | grind
  · have e := h.mn; (repeat rw [zgI_sL]); (repeat rw [zgI_sI]); (repeat rw [zgL_sL]); (repeat rw [zgL_sI]); (repeat' split) <;> first | rfl | (exfalso; omega) | exact e | grind
  · have e := h.cs; (repeat rw [zgI_sL]); (repeat rw [zgI_sI]); (repeat rw [zgL_sL]); (repeat rw [zgL_sI]); (repeat' split) <;> first | rfl | (exfalso; omega) | exact e | grind
  · have e := h.cp; (repeat rw [zgI_sL]); (repeat rw [zgI_sI]); (repeat rw [zgL_sL]); (repeat rw [zgL_sI]); (repeat' split) <;> first | rfl | (exfalso; omega) | exact e | grind
  · have e := h.cm; (repeat rw [zgI_sL]); (repeat rw [zgI_sI]); (repeat rw [zgL_sL]); (repeat rw [zgL_sI]); (repeat' split) <;> first | rfl | (exfalso; omega) | exact e | grind
  · intro r hr; have e := h.ct r hr; (repeat rw [zgI_sL]); (repeat rw [zgI_sI]); (repeat rw [zgL_sL]); (repeat rw [zgL_sI]); (repeat' split) <;> first | rfl | (exfalso; omega) | exact e | grind
  · have e := h.ctr; (repeat rw [zgI_sL]); (repeat rw [zgI_sI]); (repeat rw [zgL_sL]); (repeat rw [zgL_sI]); (repeat' split) <;> first | rfl | (exfalso; omega) | exact e | grind
  · have e := h.tr; (repeat rw [zgI_sL]); (repeat rw [zgI_sI]); (repeat rw [zgL_sL]); (repeat rw [zgL_sI]); (repeat' split) <;> first | rfl | (exfalso; omega) | exact e | grind
  · have e := h.sl; (repeat rw [zgI_sL]); (repeat rw [zgI_sI]); (repeat rw [zgL_sL]); (repeat rw [zgL_sI]); (repeat' split) <;> first | rfl | (exfalso; omega) | exact e | grind
  · intro r hr; have e := h.ck r hr; (repeat rw [zgI_sL]); (repeat rw [zgI_sI]); (repeat rw [zgL_sL]); (repeat rw [zgL_sI]); (repeat' split) <;> first | rfl | (exfalso; omega) | exact e | grind
  · intro r hr; have e := h.cc r hr; (repeat rw [zgI_sL]); (repeat rw [zgI_sI]); (repeat rw [zgL_sL]); (repeat rw [zgL_sI]); (repeat' split) <;> first | rfl | (exfalso; omega) | exact e | grind
  · intro r hr; have e := h.cl r hr; (repeat rw [zgI_sL]); (repeat rw [zgI_sI]); (repeat rw [zgL_sL]); (repeat rw [zgL_sI]); (repeat' split) <;> first | rfl | (exfalso; omega) | exact e | grind
  · intro r hr; have e := h.cd r hr; (repeat rw [zgI_sL]); (repeat rw [zgI_sI]); (repeat rw [zgL_sL]); (repeat rw [zgL_sI]); (repeat' split) <;> first | rfl | (exfalso; omega) | exact e | grind
  · intro r hr; have e := h.co r hr; (repeat rw [zgI_sL]); (repeat rw [zgI_sI]); (repeat rw [zgL_sL]); (repeat rw [zgL_sI]); (repeat' split) <;> first | rfl | (exfalso; omega) | exact e | grind
  · intro r hr; have e := h.cw r hr; by_cases q : r = s; (· subst q; rw [zgL_sL, if_pos ⟨rfl, rfl⟩]; (repeat rw [zgI_sI]); rw [if_neg (by omega), if_pos ⟨rfl, rfl⟩, if_pos ⟨rfl, rfl⟩]); (· rw [zgL_sL, if_neg (by omega)]; (repeat rw [zgL_sI]); (repeat rw [zgI_sI]); rw [if_neg (by omega), if_neg (by omega), if_neg (by omega), if_neg (by omega)]; exact e)
  · intro r hr; have e := h.rk r hr; (repeat rw [zgI_sI]); (repeat' split) <;> first | exact ⟨x, by omega, rfl⟩ | (exfalso; omega) | exact e
  · intro r hr; have e := h.rc r hr; (repeat rw [zgI_sI]); (repeat' split) <;> first | exact ⟨y, by omega, rfl⟩ | (exfalso; omega) | exact e
  · intro r hr; have e := h.rl r hr; (repeat rw [zgI_sL]); (repeat rw [zgI_sI]); (repeat rw [zgL_sL]); (repeat rw [zgL_sI]); (repeat' split) <;> first | rfl | (exfalso; omega) | exact e | grind
  · intro r hr; have e := h.rd r hr; (repeat rw [zgI_sL]); (repeat rw [zgI_sI]); (repeat rw [zgL_sL]); (repeat rw [zgL_sI]); (repeat' split) <;> first | rfl | (exfalso; omega) | exact e | grind
  · intro r hr; have e := h.ro r hr; (repeat rw [zgI_sL]); (repeat rw [zgI_sI]); (repeat rw [zgL_sL]); (repeat rw [zgL_sI]); (repeat' split) <;> first | rfl | (exfalso; omega) | exact e | grind
  · intro a i hr; have e := h.fc a i hr; (repeat rw [zgI_sL]); (repeat rw [zgI_sI]); (repeat rw [zgL_sL]); (repeat rw [zgL_sI]); (repeat' split) <;> first | rfl | (exfalso; omega) | exact e | grind
  · intro r hr; have e := h.fb r hr; (repeat rw [zgI_sL]); (repeat rw [zgI_sI]); (repeat rw [zgL_sL]); (repeat rw [zgL_sI]); (repeat' split) <;> first | rfl | (exfalso; omega) | exact e | grind
  · intro a i hr; have e := h.fl a i hr; (repeat rw [zgI_sL]); (repeat rw [zgI_sI]); (repeat rw [zgL_sL]); (repeat rw [zgL_sI]); (repeat' split) <;> first | rfl | (exfalso; omega) | exact e | grind
  · exact h.fg
  · intro a i hr; have e := h.fm a i hr; (repeat rw [zgI_sL]); (repeat rw [zgI_sI]); (repeat rw [zgL_sL]); (repeat rw [zgL_sI]); (repeat' split) <;> first | rfl | (exfalso; omega) | exact e | grind
  · exact h.fh
  · have e := h.fz; (repeat rw [zgI_sL]); (repeat rw [zgI_sI]); (repeat rw [zgL_sL]); (repeat rw [zgL_sI]); (repeat' split) <;> first | rfl | (exfalso; omega) | exact e | grind
/-- what work on a Wall leaves as it was -/
def zFr (b : Nat) (c0 m0 c m : zz_W) : Prop := (∀ a i, ¬ (b ≤ a ∧ a ≤ b + 7) → zgI c a i = zgI c0 a i) ∧ zgI c b 15 = zgI c0 b 15 ∧ (∀ a i, ¬ a = b + 6 → zgL c a i = zgL c0 a i) ∧ c.2.2 = c0.2.2 ∧
  (∀ a i, ¬ (a = 1 ∧ i < 64 ∧ ¬ i = 13) → zgI m a i = zgI m0 a i) ∧ m.2 = m0.2
theorem zFr_rfl (b : Nat) (c m : zz_W) : zFr b c m c m := ⟨fun _ _ _ => rfl, rfl, fun _ _ _ => rfl, rfl, fun _ _ _ => rfl, rfl⟩
theorem zFr_tr {b : Nat} {c0 m0 c m c1 m1 : zz_W} (h : zFr b c0 m0 c m) (h1 : zFr b c m c1 m1) : zFr b c0 m0 c1 m1 := by
  obtain ⟨a1, a2, a3, a4, a5, a6⟩ := h
  obtain ⟨b1, b2, b3, b4, b5, b6⟩ := h1
  exact ⟨fun a i hh => (b1 a i hh).trans (a1 a i hh), b2.trans a2, fun a i hh => (b3 a i hh).trans (a3 a i hh), b4.trans a4, fun a i hh => (b5 a i hh).trans (a5 a i hh), b6.trans a6⟩
theorem zFr_of {b n : Nat} {c0 m0 c m : zz_W} (h : zWal b n c0 m0 c m) : zFr b c0 m0 c m := ⟨h.fc, h.fb 15 (by omega), h.fl, h.fg, fun a i hh => h.fm a i (by omega), h.fh⟩
