theorem zWal_move {b b' n : Nat} {c0 m0 c m c1 m1 : zz_W} (h : zWal b n c0 m0 c m) (W : zisW b' = true) (e0 : ∀ i, 9 ≤ i → i ≤ 14 → zgI c1 b' i = zgI c b i)
    (e1 : ∀ i, i < 10 → zgI c1 (b' + 1) i = zgI c (b + 1) i) (e2 : ∀ i, i < 10 → zgI c1 (b' + 2) i = zgI c (b + 2) i) (e3 : ∀ i, i < 10 → zgI c1 (b' + 3) i = zgI c (b + 3) i) (e4 : ∀ i, i < 10 → zgI c1 (b' + 4) i = zgI c (b + 4) i) (e5 : ∀ i, i < 10 → zgI c1 (b' + 5) i = zgI c (b + 5) i)
    (e6 : ∀ i, i < 10 → zgL c1 (b' + 6) i = zgL c (b + 6) i) (e7 : ∀ i, i < 7 → zgI c1 (b' + 7) i = zgI c (b + 7) i) (em : ∀ i, i < 64 → zgI m1 1 i = zgI m 1 i) : zWal b' n c1 m1 c1 m1 := by
  have hn10 := h.hn
  unfold zWal
  refine ⟨?_, ?_, ?_, ?_, ?_, ?_, ?_, ?_, ?_, ?_, ?_, ?_, ?_, ?_, ?_, ?_, ?_, ?_, ?_, ?_, ?_, ?_, ?_, ?_, ?_, ?_, ?_, ?_, ?_, ?_⟩
  · exact W
  · exact h.hn
  · rw [e0 14 (by decide) (by decide), em 0 (by omega)]; exact h.cz
  · rw [e0 9 (by decide) (by decide)]; exact h.cn
  · rw [em 1 (by omega)]; exact h.mn
  · rw [e0 13 (by decide) (by decide), em 2 (by omega)]; exact h.cs
  · rw [e0 11 (by decide) (by decide), em 3 (by omega)]; exact h.cp
  · rw [e0 12 (by decide) (by decide), em 4 (by omega)]; exact h.cm
  · intro r hr; rw [e7 r (by omega), em (5 + r) (by omega)]; exact h.ct r hr
  · rw [e0 10 (by decide) (by decide), em 12 (by omega)]; exact h.ctr
  · rw [em 12 (by omega)]; exact h.tr
  · rw [em 3 (by omega)]; exact h.sl
  · intro r hr; rw [e1 r (by omega), em (14 + 5 * r) (by omega)]; exact h.ck r hr
  · intro r hr; rw [e2 r (by omega), em (15 + 5 * r) (by omega)]; exact h.cc r hr
  · intro r hr; rw [e3 r (by omega), em (16 + 5 * r) (by omega)]; exact h.cl r hr
  · intro r hr; rw [e4 r (by omega), em (17 + 5 * r) (by omega)]; exact h.cd r hr
  · intro r hr; rw [e5 r (by omega), em (18 + 5 * r) (by omega)]; exact h.co r hr
  · intro r hr; rw [e6 r (by omega), em (14 + 5 * r) (by omega), em (15 + 5 * r) (by omega)]; exact h.cw r hr
  · intro r hr; rw [em (14 + 5 * r) (by omega)]; exact h.rk r hr
  · intro r hr; rw [em (15 + 5 * r) (by omega)]; exact h.rc r hr
  · intro r hr; rw [em (16 + 5 * r) (by omega)]; exact h.rl r hr
  · intro r hr; rw [em (17 + 5 * r) (by omega)]; exact h.rd r hr
  · intro r hr; rw [em (18 + 5 * r) (by omega)]; exact h.ro r hr
  · intros; rfl
  · intros; rfl
  · intros; rfl
  · rfl
  · intros; rfl
  · rfl
  · exact id
