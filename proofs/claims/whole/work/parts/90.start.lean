theorem zP_set {D : va_G} {cl : List vw_C} {ws : va_W} {H : Heap} {k a : Nat} {x y : va_E} (h : va_P D cl ws H) (hk : ws[k]? = some (a, x)) (he : va_at D cl (a, x) H → va_at D cl (a, y) H) : va_P D cl (ws.set k (a, y)) H := by
  intro j q hq
  rw [List.getElem?_set] at hq
  by_cases hj : k = j
  · subst hj
    rw [if_pos rfl] at hq
    have hl : k < ws.length := (List.getElem?_eq_some_iff.mp hk).1
    rw [if_pos hl] at hq
    cases hq
    exact he (h k _ hk)
  · rw [if_neg hj] at hq
    exact h j q hq
def zadC (q : Nat) (u : Nat → Nat) : Nat → Nat := fun k => match k with
  | 0 => q
  | k + 1 => u k
set_option maxHeartbeats 4000000 in
set_option maxRecDepth 100000 in
theorem zws_C0 {tc : Nat → ClassId} {q : Nat} {u : Nat → Nat} : ((LX7 tc q u).set 39 (u 38, .inl (tc 4, 4, .inr (.inr (.inr (.inr (fun i => some (zadC q u (zq4 i))))))))).set 40 (u 39, .inl (tc 5, 5, .inr (.inr (.inr (.inr (fun i => some (zadC q u (zq5 i)))))))) = zws (zadC q u) tc zshC znnC zw0 := by rfl
set_option maxHeartbeats 4000000 in
set_option maxRecDepth 100000 in
theorem zws_M0 {tc : Nat → ClassId} {q : Nat} {u : Nat → Nat} : LX8 tc q u = zws (zadC q u) tc zshM znnM zm0 := by rfl
set_option maxHeartbeats 4000000 in
set_option maxRecDepth 100000 in
theorem zstart_C {D : va_G} {tc : Nat → ClassId} {q : Nat} {u : Nat → Nat} {H : Heap} (h : va_P D vwCl (LX7 tc q u) H) : va_P D vwCl (zws (zadC q u) tc zshC znnC zw0) H := by
  rw [← zws_C0]
  refine zP_set (x := (LX7 tc q u)[40].2) (zP_set (x := (LX7 tc q u)[39].2) h rfl ?_) rfl ?_
  · intro g
    show H[u 38]? = some (arrV (tc 4) 4 (fun i => va_rf (some (zadC q u (zq4 i)))))
    have g' : H[u 38]? = some (arrV (tc 4) 4 (fun i => va_rf (va_up (va_up (va_up (va_up (fun _ => none) (Int32.toNatClampNeg 0) (some (u 41))) (Int32.toNatClampNeg 1) (some (u 43))) (Int32.toNatClampNeg 2) (some (u 45))) (Int32.toNatClampNeg 3) (some (u 47)) i))) := g
    rw [g']
    refine congrArg some (zarr_cong fun i hi => ?_)
    rcases (show i = 0 ∨ i = 1 ∨ i = 2 ∨ i = 3 by omega) with rfl | rfl | rfl | rfl <;> rfl
  · intro g
    show H[u 39]? = some (arrV (tc 5) 5 (fun i => va_rf (some (zadC q u (zq5 i)))))
    have g' : H[u 39]? = some (arrV (tc 5) 5 (fun i => va_rf (va_up (va_up (va_up (va_up (va_up (fun _ => none) (Int32.toNatClampNeg 0) (some (u 49))) (Int32.toNatClampNeg 1) (some (u 52))) (Int32.toNatClampNeg 2) (some (u 55))) (Int32.toNatClampNeg 3) (some (u 58))) (Int32.toNatClampNeg 4) (some (u 61)) i))) := g
    rw [g']
    refine congrArg some (zarr_cong fun i hi => ?_)
    rcases (show i = 0 ∨ i = 1 ∨ i = 2 ∨ i = 3 ∨ i = 4 by omega) with rfl | rfl | rfl | rfl | rfl <;> rfl
set_option maxHeartbeats 4000000 in
set_option maxRecDepth 100000 in
theorem zstart_CD {A : Nat → Prop} {tc : Nat → ClassId} {q : Nat} {u : Nat → Nat} {W : va_W} (h : va_D A (LX7 tc q u ++ W)) : va_D A (zws (zadC q u) tc zshC znnC zw0 ++ W) := by
  refine zD_perm h ?_
  rw [← zws_C0, List.map_append, List.map_append]
  exact List.Perm.refl _
set_option maxHeartbeats 4000000 in
set_option maxRecDepth 100000 in
theorem whole_start {p : Program} {e : Env} {s : State} {m : MethodId} {below : List Frame} {meth : Method} {c : Code} (l : Launch) (hflags : l.flags = flags0) {b L : Nat} {xs : Nat → Int32} (hL : L ≤ 3072) (C0 : lw_At p s m meth c b L xs) : W p l e room_1 s m #[Value.ref b] below meth c s.heap [] 0 0 (lw_Z below #[Value.ref b] s) (entryFrame m ([Value.ref b] : List Value).toArray 4) := by
  obtain ⟨hx, hb, hr, hml, hown, hts, hsc, hbl, hlk, hgv⟩ := C0
  obtain ⟨D, tc, hK⟩ := zK_start hts
  have hnw := zn_start hts
  have hao := zAO_start hts
  obtain ⟨zq, hst⟩ := zSt_start hts hgv
  have hz : ∀ w ∈ zw_tb, w.before #[Value.ref b] s = true := fun w hw => hts w (zt_mem hw)
  have S : CallFix p m c code 4 s #[Value.ref b] (Cond.initialized RX7 :: zw_tb) RL := ⟨hx, hb, hml, hown, fun w hw => (List.mem_cons.mp hw).elim (fun g => by rw [g]; exact hz _ qz_X7) (hz w)⟩
  have hX : zX s.heap.size D tc zq s := ⟨Nat.le_refl _, hK, hnw, hst⟩
  have hA : ∀ q : Nat, s.heap.size ≤ q → (fun q : Nat => s.heap.size ≤ q) q := fun _ h => h
  have hS : va_S (fun q : Nat => s.heap.size ≤ q) s.heap s.heap [] := va_S.rf
  have hP : va_P D vwCl [] s.heap := fun k q h => by simp at h
  have hD : va_D (fun q : Nat => s.heap.size ≤ q) [] := ⟨fun i j p q h => by simp at h, fun k q h => by simp at h⟩
  have hl := lv_entry ([.ref b]) (n := 4) (Nat.le_of_ble_eq_true rfl)
  rw [lg_entry_eq]
  generalize (lg_sl ([.ref b]) ++ List.replicate (4 - (lg_sl ([.ref b])).length) Slot.unset).toArray = ls at hl ⊢
  have hl : lv_has ls 4 [(0, .ref b)] := hl
  refine va_new (ci := 6) (fs := [.null, .null, .null, .null, .null, .null, .null, .null, .int 0, .int 0]) (C := RX7) (T := TX7) (N := 10) hx hb S.2.2.2.2 (fun w hw => List.mem_cons_of_mem _ (zcl_X7.2.1 w hw)) tyX7 tyX7_ok hown (hz (.classLink RL 7 RX7) (zw_mem 81 (by decide +kernel) (by decide +kernel))) (hz _ qi_X7) (hz _ qz_X7) hK hP hD hS hA rfl (fun j hj => by rcases (show j = 0 ∨ j = 1 ∨ j = 2 ∨ j = 3 ∨ j = 4 ∨ j = 5 ∨ j = 6 ∨ j = 7 ∨ j = 8 ∨ j = 9 by omega) with rfl | rfl | rfl | rfl | rfl | rfl | rfl | rfl | rfl | rfl <;> rfl) (Nat.le_of_ble_eq_true rfl) (Nat.le_of_ble_eq_true rfl) dL_law_0 (fun q7 H hP hD hS => ?_)
  have hP : va_P D vwCl [(q7, .inr (6, [.null, .null, .null, .null, .null, .null, .null, .null, .int 0, .int 0]))] H := hP
  have hD : va_D (fun q : Nat => s.heap.size ≤ q) [(q7, .inr (6, [.null, .null, .null, .null, .null, .null, .null, .null, .int 0, .int 0]))] := hD
  refine lv_dup hx hb dL_law_3 rfl ?_
  have hFc := va_free (wc := [(q7, .inr (6, [.null, .null, .null, .null, .null, .null, .null, .null, .int 0, .int 0]))]) hD hS hA [0] rfl
  refine va_callv (va_runI (As := []) (rest := [.ref q7]) S (kX7_init l D tc q7 H.size) (cwI 0 S.2.2.2.2 (zw_good qc_X7_init) rfl rfl rfl (hz _ qz_X7) (hz _ qm_L_9) (hz _ qj_X7_init) rfl (by decide +kernel) ⟨Nat.le_of_ble_eq_true rfl, Nat.le_of_ble_eq_true rfl⟩) (zr_preB hnw hK hao hP hD [.ref q7]) rfl rfl hl.1 rfl (lv_room (Nat.le_of_ble_eq_true rfl)) dL_law_4 ⟨Nat.le_of_ble_eq_true rfl, Nat.le_of_ble_eq_true rfl⟩) hS (fun q _ h => hFc q h) hFc (fun u7 t H1 locs ht hvm _ hB _ hk1 hS => ?_)
  obtain ⟨hP1, hD1⟩ := hB
  rw [ht] at hP1
  obtain ⟨hP, hD⟩ := va_join (wr := []) (w1 := LX7 tc q7 u7) hP hD [0] [] rfl rfl (by decide) (by decide) hk1 hFc hP1 hD1
  generalize H1 = H at hP hS ⊢
  have hP : va_P D vwCl (LX7 tc q7 u7) H := hP
  have hD : va_D (fun q : Nat => s.heap.size ≤ q) (LX7 tc q7 u7) := hD
  refine W.widen (k := 65) (n := 927) (Nat.le_of_ble_eq_true rfl) (Nat.le_of_ble_eq_true rfl) ?_
  refine lv_astore_n (lv' := [(1, .ref q7), (0, .ref b)]) hx hb dL_law_7 rfl hl (by decide) rfl (fun ls hl => ?_)
  refine va_new (ci := 7) (fs := [.null, .null, .null, .int 0, .null, .null, .null, .null, .int 0, .int 0, .int 0, .int 0, .int 0, .int 0, .int 0, .null, .null, .null, .int 0, .int 0, .null, .int 0, .null, .null, .null, .null, .null, .null, .null, .null, .null, .null, .null, .null, .int 0]) (C := RX8) (T := TX8) (N := 35) hx hb S.2.2.2.2 (fun w hw => List.mem_cons_of_mem _ (zcl_X8.2.1 w hw)) tyX8 tyX8_ok hown (hz (.classLink RL 10 RX8) (zw_mem 1043 (by decide +kernel) (by decide +kernel))) (hz _ qi_X8) (hz _ qz_X8) hK hP hD hS hA rfl (fun j hj => by rcases (show j = 0 ∨ j = 1 ∨ j = 2 ∨ j = 3 ∨ j = 4 ∨ j = 5 ∨ j = 6 ∨ j = 7 ∨ j = 8 ∨ j = 9 ∨ j = 10 ∨ j = 11 ∨ j = 12 ∨ j = 13 ∨ j = 14 ∨ j = 15 ∨ j = 16 ∨ j = 17 ∨ j = 18 ∨ j = 19 ∨ j = 20 ∨ j = 21 ∨ j = 22 ∨ j = 23 ∨ j = 24 ∨ j = 25 ∨ j = 26 ∨ j = 27 ∨ j = 28 ∨ j = 29 ∨ j = 30 ∨ j = 31 ∨ j = 32 ∨ j = 33 ∨ j = 34 by omega) with rfl | rfl | rfl | rfl | rfl | rfl | rfl | rfl | rfl | rfl | rfl | rfl | rfl | rfl | rfl | rfl | rfl | rfl | rfl | rfl | rfl | rfl | rfl | rfl | rfl | rfl | rfl | rfl | rfl | rfl | rfl | rfl | rfl | rfl | rfl <;> rfl) (Nat.le_of_ble_eq_true rfl) (Nat.le_of_ble_eq_true rfl) dL_law_8 (fun q8 H hP hD hS => ?_)
  refine lv_dup hx hb dL_law_11 rfl ?_
  have hPc := hP.sub (ws' := [(q8, .inr (7, [.null, .null, .null, .int 0, .null, .null, .null, .null, .int 0, .int 0, .int 0, .int 0, .int 0, .int 0, .int 0, .null, .null, .null, .int 0, .int 0, .null, .int 0, .null, .null, .null, .null, .null, .null, .null, .null, .null, .null, .null, .null, .int 0]))]) [65] rfl
  have hDc := hD.sub (ws' := [(q8, .inr (7, [.null, .null, .null, .int 0, .null, .null, .null, .null, .int 0, .int 0, .int 0, .int 0, .int 0, .int 0, .int 0, .null, .null, .null, .int 0, .int 0, .null, .int 0, .null, .null, .null, .null, .null, .null, .null, .null, .null, .null, .null, .null, .int 0]))]) [65] (by decide) rfl
  have hFc := va_free (wc := [(q8, .inr (7, [.null, .null, .null, .int 0, .null, .null, .null, .null, .int 0, .int 0, .int 0, .int 0, .int 0, .int 0, .int 0, .null, .null, .null, .int 0, .int 0, .null, .int 0, .null, .null, .null, .null, .null, .null, .null, .null, .null, .null, .null, .null, .int 0]))]) hD hS hA [65] rfl
  refine va_callv (va_runI (As := []) (rest := [.ref q8]) S (kX8_init l D tc q8 H.size) (cwI 0 S.2.2.2.2 (zw_good qc_X8_init) rfl rfl rfl (hz _ qz_X8) (hz _ qm_L_12) (hz _ qj_X8_init) rfl (by decide +kernel) ⟨Nat.le_of_ble_eq_true rfl, Nat.le_of_ble_eq_true rfl⟩) (zr_preB hnw hK hao hPc hDc [.ref q8]) rfl rfl hl.1 rfl (lv_room (Nat.le_of_ble_eq_true rfl)) dL_law_12 ⟨Nat.le_of_ble_eq_true rfl, Nat.le_of_ble_eq_true rfl⟩) hS (fun q _ h => hFc q h) hFc (fun u8 t H1 locs ht hvm _ hB _ hk1 hS => ?_)
  obtain ⟨hP1, hD1⟩ := hB
  rw [ht] at hP1
  obtain ⟨hP, hD⟩ := va_join (wr := LX7 tc q7 u7) (w1 := LX8 tc q8 u8) hP hD [65] [0, 1, 2, 3, 4, 5, 6, 7, 8, 9, 10, 11, 12, 13, 14, 15, 16, 17, 18, 19, 20, 21, 22, 23, 24, 25, 26, 27, 28, 29, 30, 31, 32, 33, 34, 35, 36, 37, 38, 39, 40, 41, 42, 43, 44, 45, 46, 47, 48, 49, 50, 51, 52, 53, 54, 55, 56, 57, 58, 59, 60, 61, 62, 63, 64] rfl rfl (by decide) (by decide) hk1 hFc hP1 hD1
  generalize H1 = H at hP hS ⊢
  refine W.widen (k := 100) (n := 7000) (Nat.le_of_ble_eq_true rfl) (Nat.le_of_ble_eq_true rfl) ?_
  refine lv_astore_n (lv' := [(2, .ref q8), (1, .ref q7), (0, .ref b)]) hx hb dL_law_15 rfl hl (by decide) rfl (fun ls hl => ?_)
  refine lv_iconst (v := 0) hx hb dL_law_16 (by decide) ?_
  refine lv_istore_n (lv' := [(3, .int 0), (2, .ref q8), (1, .ref q7), (0, .ref b)]) hx hb dL_law_17 rfl hl (by decide) rfl (fun ls hl => ?_)
  have hP7 : va_P D vwCl (LX7 tc q7 u7) H := zP_perm hP (fun x hx => List.mem_append_left _ hx)
  have hP8 : va_P D vwCl (LX8 tc q8 u8) H := zP_perm hP (fun x hx => List.mem_append_right _ hx)
  have hE : zE D tc s.heap.size (zadC q7 u7) zshC znnC (zws (zadC q8 u8) tc zshM znnM zm0) zw0 s.heap H locs := ⟨⟨(zstart_C hP7).app (by rw [← zws_M0]; exact hP8), by rw [← zws_M0]; exact zstart_CD hD⟩, hS⟩
  exact law_loop S hX hsc hbl hL hr hlk 600 0 (by omega) (by omega) (zadC q7 u7) (zadC q8 u8) zw0 zm0 s_init H locs hE ls (lv_sub hl [3, 2, 1, 0] rfl)
