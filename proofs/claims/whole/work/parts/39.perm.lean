/-! ===== lists of cells: their order doesn't matter ===== -/
theorem zD_iff {A : Nat → Prop} {ws : va_W} : va_D A ws ↔ (ws.map Prod.fst).Nodup ∧ ∀ x ∈ ws, A x.1 := by
  constructor
  · intro h
    refine ⟨?_, fun x hx => ?_⟩
    · refine List.pairwise_iff_getElem.mpr fun i j hi hj hij he => ?_
      rw [List.getElem_map, List.getElem_map] at he
      have hi' : i < ws.length := by simpa using hi
      have hj' : j < ws.length := by simpa using hj
      have := h.1 i j ws[i] ws[j] (List.getElem?_eq_getElem hi') (List.getElem?_eq_getElem hj') he
      omega
    · obtain ⟨i, hi⟩ := List.getElem?_of_mem hx
      exact h.2 i x hi
  · intro h
    refine ⟨fun i j p q hi hj he => ?_, fun k q hk => h.2 q (List.mem_of_getElem? hk)⟩
    obtain ⟨hi1, hi2⟩ := List.getElem?_eq_some_iff.mp hi
    obtain ⟨hj1, hj2⟩ := List.getElem?_eq_some_iff.mp hj
    have hp := List.pairwise_iff_getElem.mp h.1
    rcases Nat.lt_trichotomy i j with g | g | g
    · exact absurd (by rw [List.getElem_map, List.getElem_map, hi2, hj2]; exact he) (hp i j (by simpa using hi1) (by simpa using hj1) g)
    · exact g
    · exact absurd (by rw [List.getElem_map, List.getElem_map, hi2, hj2]; exact he.symm) (hp j i (by simpa using hj1) (by simpa using hi1) g)
theorem zD_perm {A : Nat → Prop} {ws ws' : va_W} (h : va_D A ws) (hp : (ws.map Prod.fst).Perm (ws'.map Prod.fst)) : va_D A ws' := by
  rw [zD_iff] at h ⊢
  refine ⟨h.1.perm hp, fun x hx => ?_⟩
  have h1 : x.1 ∈ ws'.map Prod.fst := List.mem_map_of_mem hx
  rw [← hp.mem_iff] at h1
  obtain ⟨z, hz, e⟩ := List.mem_map.mp h1
  rw [← e]
  exact h.2 z hz
theorem zP_iff {D : va_G} {cl : List vw_C} {ws : va_W} {H : Heap} : va_P D cl ws H ↔ ∀ x ∈ ws, va_at D cl x H := by
  constructor
  · intro h x hx
    obtain ⟨i, hi⟩ := List.getElem?_of_mem hx
    exact h i x hi
  · intro h k q hk
    exact h q (List.mem_of_getElem? hk)
theorem zP_perm {D : va_G} {cl : List vw_C} {ws ws' : va_W} {H : Heap} (h : va_P D cl ws H) (hp : ∀ x ∈ ws', x ∈ ws) : va_P D cl ws' H := by
  rw [zP_iff] at h ⊢
  exact fun x hx => h x (hp x hx)
theorem zset_last {L : va_W} {x y : Nat × va_E} : (L ++ [x]).set L.length y = L ++ [y] := by
  rw [List.set_append]
  simp
theorem zget_last {L : va_W} {x : Nat × va_E} : (L ++ [x])[L.length]? = some x := by simp
theorem zarr_cong {cA : ClassId} {n : Nat} {f g : Nat → Value} (h : ∀ i, i < n → f i = g i) : arrV cA n f = arrV cA n g := by
  unfold arrV
  congr 1
  have e : (fun j : Fin n => f j.val) = fun j : Fin n => g j.val := funext fun j => h j.val j.isLt
  rw [e]
/-! ===== one TEXT more ===== -/
def zq0 (w : zz_W) : Nat := 65 + 3 * w.2.2.2.1
def zmk (w : zz_W) : zz_W := (fun a b => if a = zq0 w then (if b = 0 then zgI w 36 7 else zgI w 36 9) else if a = zq0 w + 1 then va_cpy (zgI w 38) (fun _ => 0) 0 0 (zgI w 36 8).toNatClampNeg b else if a = zq0 w + 2 then 0 else w.1 a b, w.2.1, w.2.2.1, (w.2.2.2.1 + 1, fun k => if k = zq0 w then (zgI w 36 8).toNatClampNeg else w.2.2.2.2 k))
def zad (ad : Nat → Nat) (k0 q a u : Nat) : Nat → Nat := fun k => if k = k0 then q else if k = k0 + 1 then a else if k = k0 + 2 then u else ad k
theorem zad_lt {ad : Nat → Nat} {k0 q a u k : Nat} (h : k < k0) : zad ad k0 q a u k = ad k := by
  unfold zad
  rw [if_neg (by omega), if_neg (by omega), if_neg (by omega)]
theorem zmk_sh {w : zz_W} {k : Nat} (h : k < zq0 w) : zshC (zmk w).2.2.2 k = zshC w.2.2.2 k := by
  unfold zshC
  by_cases h1 : k < 65
  · rw [if_pos h1, if_pos h1]
  · rw [if_neg h1, if_neg h1]
    have hz : zq0 w = 65 + 3 * w.2.2.2.1 := rfl
    have hk : (k - 65) % 3 = 0 ∨ (k - 65) % 3 = 1 ∨ (k - 65) % 3 = 2 := by omega
    rcases hk with e | e | e
    · rw [e]; rfl
    · rw [e]
      show (Sum.inl (0, if k - 1 = zq0 w then _ else w.2.2.2.2 (k - 1)) : zz_S) = Sum.inl (0, w.2.2.2.2 (k - 1))
      rw [if_neg (by omega)]
    · rw [e]
      show (Sum.inl (0, if k - 2 = zq0 w then _ else w.2.2.2.2 (k - 2)) : zz_S) = Sum.inl (0, w.2.2.2.2 (k - 2))
      rw [if_neg (by omega)]
def zchk (k : Nat) : Bool := match zsh0 k with
  | .inl (t, n) => (t != 6 || (n == 14 && (k == 9 || k == 19 || k == 29))) && (t != 4 || n == 4) && (t != 5 || n == 5) && decide (t < 7)
  | .inr (_, fds) => fds.all (fun f => decide (f < 67))
theorem zchk_ok : ∀ k, k < 65 → zchk k = true := by decide +kernel
theorem zchk_inl {k t n : Nat} (hk : k < 65) (e : zsh0 k = .inl (t, n)) : (t ≠ 6 ∨ (n = 14 ∧ (k = 9 ∨ k = 19 ∨ k = 29))) ∧ (t ≠ 4 ∨ n = 4) ∧ (t ≠ 5 ∨ n = 5) ∧ t < 7 := by
  have h := zchk_ok k hk
  unfold zchk at h
  rw [e] at h
  simp at h
  omega
theorem zchk_inr {k ci : Nat} {fds : List Nat} (hk : k < 65) (e : zsh0 k = .inr (ci, fds)) : ∀ f ∈ fds, f < 67 := by
  have h := zchk_ok k hk
  unfold zchk at h
  rw [e] at h
  simpa using h
theorem zfv_ad {ad ad' : Nat → Nat} {w w' : zz_W} {k : Nat} (hI : ∀ i, zgI w' k i = zgI w k i) (hL : ∀ i, zgL w' k i = zgL w k i) : ∀ (fds : List Nat) (j0 : Nat), (∀ q, q + 2 ∈ fds → ad' q = ad q) → zfv ad' w' k j0 fds = zfv ad w k j0 fds
  | [], _, _ => rfl
  | f :: r, j0, h => by
    show zval ad' w' k j0 f :: zfv ad' w' k (j0 + 1) r = zval ad w k j0 f :: zfv ad w k (j0 + 1) r
    rw [zfv_ad hI hL r (j0 + 1) (fun q hq => h q (List.mem_cons_of_mem _ hq))]
    congr 1
    match f, h with
    | 0, _ => show Value.int _ = Value.int _; rw [hI]
    | 1, _ => show Value.long _ = Value.long _; rw [hL]
    | q + 2, h => show Value.ref _ = Value.ref _; rw [h q List.mem_cons_self]
theorem zmk_at {D : va_G} {tc : Nat → ClassId} {ad : Nat → Nat} {w : zz_W} {H : Heap} {q a u k : Nat} (hk : k < zq0 w) (h9 : zokR w 9 0 14 = true) (h19 : zokR w 19 0 14 = true) (h29 : zokR w 29 0 14 = true) (h : va_at D vwCl (ad k, zpic ad tc w k (zshC w.2.2.2 k)) H) : va_at D vwCl (zad ad (zq0 w) q a u k, zpic (zad ad (zq0 w) q a u) tc (zmk w) k (zshC (zmk w).2.2.2 k)) H := by
  rw [zmk_sh hk, zad_lt hk]
  have hz : zq0 w = 65 + 3 * w.2.2.2.1 := rfl
  have eI : ∀ i, zgI (zmk w) k i = zgI w k i := fun i => by
    show (if k = zq0 w then _ else if k = zq0 w + 1 then _ else if k = zq0 w + 2 then _ else w.1 k i) = w.1 k i
    rw [if_neg (by omega), if_neg (by omega), if_neg (by omega)]
  have eL : ∀ i, zgL (zmk w) k i = zgL w k i := fun i => rfl
  by_cases h1 : k < 65
  · have hs : zshC w.2.2.2 k = zsh0 k := by unfold zshC; rw [if_pos h1]
    rw [hs] at h ⊢
    cases e : zsh0 k with
    | inl x =>
      obtain ⟨t, n⟩ := x
      rw [e] at h
      obtain ⟨c6, c4, c5, c7⟩ := zchk_inl h1 e
      show H[ad k]? = some (vp_cell (tc t) (n, zar (zad ad (zq0 w) q a u) (zmk w) k t))
      have h' : H[ad k]? = some (vp_cell (tc t) (n, zar ad w k t)) := h
      rw [h']
      have eI' : zgI (zmk w) k = zgI w k := funext eI
      rcases (show t = 0 ∨ t = 1 ∨ t = 2 ∨ t = 3 ∨ t = 4 ∨ t = 5 ∨ t = 6 by omega) with rfl | rfl | rfl | rfl | rfl | rfl | rfl
      · show some (vp_cell _ (_, Sum.inl (zgI w k))) = some (vp_cell _ (_, Sum.inl (zgI (zmk w) k))); rw [eI']
      · rfl
      · show some (vp_cell _ (_, Sum.inl (zgI w k))) = some (vp_cell _ (_, Sum.inl (zgI (zmk w) k))); rw [eI']
      · show some (vp_cell _ (_, Sum.inl (zgI w k))) = some (vp_cell _ (_, Sum.inl (zgI (zmk w) k))); rw [eI']
      · obtain rfl := c4.resolve_left (fun g => g rfl)
        have e1 : vp_cell (tc 4) (4, zar ad w k 4) = arrV (tc 4) 4 (fun i => va_rf (some (ad (zq4 i)))) := rfl
        have e2 : vp_cell (tc 4) (4, zar (zad ad (zq0 w) q a u) (zmk w) k 4) = arrV (tc 4) 4 (fun i => va_rf (some (zad ad (zq0 w) q a u (zq4 i)))) := rfl
        rw [e1, e2]
        refine congrArg some (zarr_cong fun i hi => ?_)
        rw [zad_lt (by unfold zq4; omega)]
      · obtain rfl := c5.resolve_left (fun g => g rfl)
        have e1 : vp_cell (tc 5) (5, zar ad w k 5) = arrV (tc 5) 5 (fun i => va_rf (some (ad (zq5 i)))) := rfl
        have e2 : vp_cell (tc 5) (5, zar (zad ad (zq0 w) q a u) (zmk w) k 5) = arrV (tc 5) 5 (fun i => va_rf (some (zad ad (zq0 w) q a u (zq5 i)))) := rfl
        rw [e1, e2]
        refine congrArg some (zarr_cong fun i hi => ?_)
        rw [zad_lt (by unfold zq5; omega)]
      · obtain ⟨rfl, hk3⟩ := c6.resolve_left (fun g => g rfl)
        have e1 : vp_cell (tc 6) (14, zar ad w k 6) = arrV (tc 6) 14 (fun i => va_rf ((zgR w k i).map ad)) := rfl
        have e2 : vp_cell (tc 6) (14, zar (zad ad (zq0 w) q a u) (zmk w) k 6) = arrV (tc 6) 14 (fun i => va_rf ((zgR w k i).map (zad ad (zq0 w) q a u))) := rfl
        rw [e1, e2]
        refine congrArg some (zarr_cong fun i hi => ?_)
        have hok : zokR w k 0 14 = true := by rcases hk3 with rfl | rfl | rfl <;> assumption
        cases hr : zgR w k i with
        | none => rfl
        | some y =>
          have hT := of_decide_eq_true (zokR_at hok hi (by rw [Nat.zero_add]; exact hr))
          show Value.ref (ad y) = Value.ref (zad ad (zq0 w) q a u y)
          rw [zad_lt (by omega)]
    | inr x =>
      obtain ⟨ci, fds⟩ := x
      rw [e] at h
      have hq := zchk_inr h1 e
      show va_at D vwCl (ad k, Sum.inr (ci, zfv (zad ad (zq0 w) q a u) (zmk w) k 0 fds)) H
      rw [zfv_ad eI eL fds 0 (fun y hy => zad_lt (by have := hq _ hy; omega))]
      exact h
  · have hk3 : (k - 65) % 3 = 0 ∨ (k - 65) % 3 = 1 ∨ (k - 65) % 3 = 2 := by omega
    have eI' : zgI (zmk w) k = zgI w k := funext eI
    have hs : zshC w.2.2.2 k = (match (k - 65) % 3 with
      | 0 => .inr (4, [0, 0, k + 1 + 2, k + 2 + 2])
      | 1 => .inl (0, w.2.2.2.2 (k - 1))
      | _ => .inl (0, w.2.2.2.2 (k - 2))) := by unfold zshC; rw [if_neg h1]; rfl
    rcases hk3 with e | e | e
    · rw [e] at hs
      rw [hs] at h ⊢
      show va_at D vwCl (ad k, Sum.inr (4, zfv (zad ad (zq0 w) q a u) (zmk w) k 0 [0, 0, k + 1 + 2, k + 2 + 2])) H
      rw [zfv_ad (ad := ad) eI eL _ 0 (fun y hy => zad_lt (by
        simp at hy
        omega))]
      exact h
    · rw [e] at hs
      rw [hs] at h ⊢
      show H[ad k]? = some (vp_cell (tc 0) (_, Sum.inl (zgI (zmk w) k)))
      rw [eI']
      exact h
    · rw [e] at hs
      rw [hs] at h ⊢
      show H[ad k]? = some (vp_cell (tc 0) (_, Sum.inl (zgI (zmk w) k)))
      rw [eI']
      exact h
theorem zws_mk {tc : Nat → ClassId} {ad : Nat → Nat} {w : zz_W} {q a u : Nat} : zws (zad ad (zq0 w) q a u) tc zshC znnC (zmk w) = (List.range (zq0 w)).map (fun k => (zad ad (zq0 w) q a u k, zpic (zad ad (zq0 w) q a u) tc (zmk w) k (zshC (zmk w).2.2.2 k))) ++ [(q, .inr (4, [.int (zgI w 36 7), .int (zgI w 36 9), .ref a, .ref u])), (a, .inl (tc 0, (zgI w 36 8).toNatClampNeg, .inl (va_cpy (zgI w 38) (fun _ => 0) 0 0 (zgI w 36 8).toNatClampNeg))), (u, .inl (tc 0, (zgI w 36 8).toNatClampNeg, .inl (fun _ => 0)))] := by
  have hn : znnC (zmk w).2.2.2 = zq0 w + 3 := by
    show 65 + 3 * (w.2.2.2.1 + 1) = 65 + 3 * w.2.2.2.1 + 3
    omega
  have hz : zq0 w = 65 + 3 * w.2.2.2.1 := rfl
  unfold zws
  rw [hn, List.range_add, List.map_append]
  congr 1
  have a0 : zad ad (zq0 w) q a u (zq0 w) = q := by unfold zad; rw [if_pos rfl]
  have a1 : zad ad (zq0 w) q a u (zq0 w + 1) = a := by unfold zad; rw [if_neg (by omega), if_pos rfl]
  have a2 : zad ad (zq0 w) q a u (zq0 w + 2) = u := by unfold zad; rw [if_neg (by omega), if_neg (by omega), if_pos rfl]
  have s0 : zshC (zmk w).2.2.2 (zq0 w) = .inr (4, [0, 0, zq0 w + 1 + 2, zq0 w + 2 + 2]) := by
    unfold zshC
    rw [if_neg (by omega), show (zq0 w - 65) % 3 = 0 by omega]
    rfl
  have s1 : zshC (zmk w).2.2.2 (zq0 w + 1) = .inl (0, (zgI w 36 8).toNatClampNeg) := by
    unfold zshC
    rw [if_neg (by omega), show (zq0 w + 1 - 65) % 3 = 1 by omega]
    show (Sum.inl (0, if zq0 w + 1 - 1 = zq0 w then _ else _) : zz_S) = _
    rw [if_pos (by omega)]
  have s2 : zshC (zmk w).2.2.2 (zq0 w + 2) = .inl (0, (zgI w 36 8).toNatClampNeg) := by
    unfold zshC
    rw [if_neg (by omega), show (zq0 w + 2 - 65) % 3 = 2 by omega]
    show (Sum.inl (0, if zq0 w + 2 - 2 = zq0 w then _ else _) : zz_S) = _
    rw [if_pos (by omega)]
  show [(zad ad (zq0 w) q a u (zq0 w), zpic (zad ad (zq0 w) q a u) tc (zmk w) (zq0 w) (zshC (zmk w).2.2.2 (zq0 w))), (zad ad (zq0 w) q a u (zq0 w + 1), zpic (zad ad (zq0 w) q a u) tc (zmk w) (zq0 w + 1) (zshC (zmk w).2.2.2 (zq0 w + 1))), (zad ad (zq0 w) q a u (zq0 w + 2), zpic (zad ad (zq0 w) q a u) tc (zmk w) (zq0 w + 2) (zshC (zmk w).2.2.2 (zq0 w + 2)))] = _
  have g0 : zgI (zmk w) (zq0 w) 0 = zgI w 36 7 := by
    show (if zq0 w = zq0 w then (if (0 : Nat) = 0 then _ else _) else _) = _
    rw [if_pos rfl, if_pos rfl]
  have g1 : zgI (zmk w) (zq0 w) 1 = zgI w 36 9 := by
    show (if zq0 w = zq0 w then (if (1 : Nat) = 0 then _ else _) else _) = _
    rw [if_pos rfl, if_neg (by decide)]
  have g2 : zgI (zmk w) (zq0 w + 1) = va_cpy (zgI w 38) (fun _ => 0) 0 0 (zgI w 36 8).toNatClampNeg := by
    funext b
    show (if zq0 w + 1 = zq0 w then _ else if zq0 w + 1 = zq0 w + 1 then _ else _) = _
    rw [if_neg (by omega), if_pos rfl]
  have g3 : zgI (zmk w) (zq0 w + 2) = fun _ => 0 := by
    funext b
    show (if zq0 w + 2 = zq0 w then _ else if zq0 w + 2 = zq0 w + 1 then _ else if zq0 w + 2 = zq0 w + 2 then (0 : Int32) else _) = _
    rw [if_neg (by omega), if_neg (by omega), if_pos rfl]
  rw [s0, s1, s2, a0, a1, a2]
  show ([(q, Sum.inr (4, [.int (zgI (zmk w) (zq0 w) 0), .int (zgI (zmk w) (zq0 w) 1), .ref (zad ad (zq0 w) q a u (zq0 w + 1)), .ref (zad ad (zq0 w) q a u (zq0 w + 2))])), (a, Sum.inl (tc 0, (zgI w 36 8).toNatClampNeg, Sum.inl (zgI (zmk w) (zq0 w + 1)))), (u, Sum.inl (tc 0, (zgI w 36 8).toNatClampNeg, Sum.inl (zgI (zmk w) (zq0 w + 2))))] : va_W) = _
  rw [g0, g1, g2, g3, a1, a2]
theorem zmk_H {D : va_G} {tc : Nat → ClassId} {lo : Nat} {ad : Nat → Nat} {fr : va_W} {w : zz_W} {H : Heap} {q a u : Nat} (h9 : zokR w 9 0 14 = true) (h19 : zokR w 19 0 14 = true) (h29 : zokR w 29 0 14 = true)
    (hP : va_P D vwCl ((q, .inr (4, [.int (zgI w 36 7), .int (zgI w 36 9), .ref a, .ref u])) :: (a, .inl (tc 0, (zgI w 36 8).toNatClampNeg, .inl (va_cpy (zgI w 38) (fun _ => 0) 0 0 (zgI w 36 8).toNatClampNeg))) :: ((zws ad tc zshC znnC w ++ fr) ++ [(u, .inl (tc 0, (zgI w 36 8).toNatClampNeg, .inl (fun _ => 0)))])) H)
    (hD : va_D (fun a => lo ≤ a) ((q, .inr (4, [.int (zgI w 36 7), .int (zgI w 36 9), .ref a, .ref u])) :: (a, .inl (tc 0, (zgI w 36 8).toNatClampNeg, .inl (va_cpy (zgI w 38) (fun _ => 0) 0 0 (zgI w 36 8).toNatClampNeg))) :: ((zws ad tc zshC znnC w ++ fr) ++ [(u, .inl (tc 0, (zgI w 36 8).toNatClampNeg, .inl (fun _ => 0)))]))) : zH D tc lo (zad ad (zq0 w) q a u) zshC znnC fr (zmk w) H := by
  refine ⟨?_, ?_⟩
  · rw [zP_iff] at hP ⊢
    intro x hx
    rw [zws_mk] at hx
    simp only [List.mem_append, List.mem_map, List.mem_range, List.mem_cons, List.not_mem_nil, or_false] at hx
    rcases hx with (⟨k, hk, rfl⟩ | rfl | rfl | rfl) | hx
    · refine zmk_at hk h9 h19 h29 (hP _ ?_)
      refine List.mem_cons_of_mem _ (List.mem_cons_of_mem _ (List.mem_append_left _ (List.mem_append_left _ ?_)))
      exact List.mem_map.mpr ⟨k, List.mem_range.mpr hk, rfl⟩
    · exact hP _ List.mem_cons_self
    · exact hP _ (List.mem_cons_of_mem _ List.mem_cons_self)
    · exact hP _ (List.mem_cons_of_mem _ (List.mem_cons_of_mem _ (List.mem_append_right _ List.mem_cons_self)))
    · exact hP _ (List.mem_cons_of_mem _ (List.mem_cons_of_mem _ (List.mem_append_left _ (List.mem_append_right _ hx))))
  · refine zD_perm hD ?_
    rw [zws_mk]
    have e : ((List.range (zq0 w)).map (fun k => (zad ad (zq0 w) q a u k, zpic (zad ad (zq0 w) q a u) tc (zmk w) k (zshC (zmk w).2.2.2 k)))).map Prod.fst = (zws ad tc zshC znnC w).map Prod.fst := by
      unfold zws
      rw [List.map_map, List.map_map]
      refine List.map_congr_left fun k hk => ?_
      exact zad_lt (List.mem_range.mp hk)
    simp only [List.map_append, List.map_cons, List.map_nil, e]
    generalize (zws ad tc zshC znnC w).map Prod.fst = X
    generalize fr.map Prod.fst = Y
    have h1 : (q :: a :: (X ++ Y ++ [u])).Perm ((X ++ Y ++ [u]) ++ [q, a]) := (List.perm_append_comm (l₁ := [q, a]) (l₂ := X ++ Y ++ [u]))
    refine h1.trans ?_
    rw [List.append_assoc, List.append_assoc, List.append_assoc]
    refine List.Perm.append_left X ?_
    refine (List.perm_append_comm (l₁ := Y)).trans ?_
    refine List.Perm.append_right Y ?_
    exact (List.perm_append_comm (l₁ := [u]) (l₂ := [q, a]))
