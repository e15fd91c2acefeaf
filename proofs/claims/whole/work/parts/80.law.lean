/-! ===== the law's loop ===== -/
theorem zE_swap {D : va_G} {tc : Nat → ClassId} {lo : Nat} {ad1 ad2 : Nat → Nat} {sh1 sh2 : zz_G → Nat → zz_S} {nn1 nn2 : zz_G → Nat} {w1 w2 : zz_W} {H0 H : Heap} {locs : List Loc} (h : zE D tc lo ad1 sh1 nn1 (zws ad2 tc sh2 nn2 w2) w1 H0 H locs) : zE D tc lo ad2 sh2 nn2 (zws ad1 tc sh1 nn1 w1) w2 H0 H locs := by
  refine ⟨⟨zP_perm h.1.1 (fun x hx => ?_), zD_perm h.1.2 ?_⟩, h.2⟩
  · rcases List.mem_append.mp hx with g | g
    · exact List.mem_append_right _ g
    · exact List.mem_append_left _ g
  · rw [List.map_append, List.map_append]
    exact List.perm_append_comm
section ZLD
variable {p : Program} {l : Launch} {e : Env} {R : Room} {s : State} {m : MethodId} {args : Array Value} {below : List Frame} {meth : Method} {c : Code} {H : Heap} {locs : List Loc} {cells slots : Nat} {Q : State → Prop} {cc : ByteArray} {pc nL : Nat} {ls : Array Slot} {rest : List Value} {q0 : Cond} {own : String}
theorem zr_sld (S : CallFix p m c cc nL s args (q0 :: zw_tb) own) {b L : Nat} {xs : Nat → Int32} (hsc : va_X b L xs s s.heap) (hbl : b < s.heap.size) (hS : va_S (fun a => s.heap.size ≤ a) s.heap H locs) {i k : Nat} {x : Int32} (hx : x = nI (i + k)) (hk : i + k < L) (hL : L ≤ 3072) (hdg : decode cc pc = .ok (.iaload, 1))
    (kk : W p l e R s m args below meth c H locs cells slots Q (F0 m (pc + 1) ls (.int (xs (i + k)) :: rest))) : W p l e R s m args below meth c H locs cells slots Q (F0 m pc ls (.int x :: .ref b :: rest)) := by
  subst hx
  refine va_sld S.1 S.2.1 hsc hbl (Nat.not_le.mpr hbl) hS (vp_in_nI hk (by omega)) hdg ?_
  rw [nI_clamp (by omega)]
  exact kk
theorem zix (i k : Nat) {x : Int32} (h : nI k = x) : nI i + x = nI (i + k) := by rw [← h]; exact nI_add i k
end ZLD
set_option maxHeartbeats 4000000 in
set_option maxRecDepth 100000 in
theorem zl_0 {p : Program} {l : Launch} {e : Env} {s : State} {m : MethodId} {below : List Frame} {meth : Method} {c : Code} {b L : Nat} {xs : Nat → Int32} {D : va_G} {tc : Nat → ClassId} {zq : zz_Q} {q0 : Cond} {Q : State → Prop} (S : CallFix p m c code 4 s #[Value.ref b] (q0 :: zw_tb) RL) (hX : zX s.heap.size D tc zq s) (hsc : va_X b L xs s s.heap) (hbl : b < s.heap.size) {i : Nat} (hi : i + 6 ≤ L) (hL : L ≤ 3072) {ad adM : Nat → Nat} {cw mw : zz_W} (hR : zRel cw mw) {H : Heap} {locs : List Loc} (hE : zE D tc s.heap.size ad zshC znnC (zws adM tc zshM znnM mw) cw s.heap H locs) {ls : Array Slot} (hl : lv_has ls 4 [(0, .ref b), (1, .ref (ad 0)), (2, .ref (adM 0)), (3, .int (nI i))]) {cells slots : Nat} (hc : cells + 3 ≤ 600000) (hs : slots + 196 ≤ 7302250) (kk : ∀ (ad2 : Nat → Nat) (cw2 mw2 : zz_W) (H2 : Heap) (locs2 : List Loc), zRel cw2 mw2 → ad2 0 = ad 0 → zE D tc s.heap.size ad2 zshC znnC (zws adM tc zshM znnM mw2) cw2 s.heap H2 locs2 → W p l e room_1 s m #[Value.ref b] below meth c H2 locs2 (cells + 3) (slots + 196) Q (F0 m 1650 ls [])) : W p l e room_1 s m #[Value.ref b] below meth c H locs cells slots Q (F0 m 232 ls []) := by
  have hx := S.1
  have hb := S.2.1
  obtain ⟨r, c1, m1, e1, e2, hR2⟩ := s_run (xs (i + 1)) (xs (i + 2)) (xs (i + 3)) (xs (i + 4)) cw mw hR
  refine lv_aload_n hx hb dL_law_232 rfl (lv_at hl 1 rfl) ?_
  refine lv_aload_n hx hb dL_law_233 rfl (lv_at hl 0 rfl) ?_
  refine lv_iload_n hx hb dL_law_234 rfl (lv_at hl 3 rfl) ?_
  refine lv_iconst (v := 1) hx hb dL_law_235 (by decide) ?_
  refine lv_iadd hx hb dL_law_236 ?_
  refine zr_sld S hsc hbl hE.2 (k := 1) (zix i 1 (by decide)) (by omega) hL dL_law_237 ?_
  refine lv_aload_n hx hb dL_law_238 rfl (lv_at hl 0 rfl) ?_
  refine lv_iload_n hx hb dL_law_239 rfl (lv_at hl 3 rfl) ?_
  refine lv_iconst (v := 2) hx hb dL_law_240 (by decide) ?_
  refine lv_iadd hx hb dL_law_241 ?_
  refine zr_sld S hsc hbl hE.2 (k := 2) (zix i 2 (by decide)) (by omega) hL dL_law_242 ?_
  refine lv_aload_n hx hb dL_law_243 rfl (lv_at hl 0 rfl) ?_
  refine lv_iload_n hx hb dL_law_244 rfl (lv_at hl 3 rfl) ?_
  refine lv_iconst (v := 3) hx hb dL_law_245 (by decide) ?_
  refine lv_iadd hx hb dL_law_246 ?_
  refine zr_sld S hsc hbl hE.2 (k := 3) (zix i 3 (by decide)) (by omega) hL dL_law_247 ?_
  refine lv_aload_n hx hb dL_law_248 rfl (lv_at hl 0 rfl) ?_
  refine lv_iload_n hx hb dL_law_249 rfl (lv_at hl 3 rfl) ?_
  refine lv_iconst (v := 4) hx hb dL_law_250 (by decide) ?_
  refine lv_iadd hx hb dL_law_251 ?_
  refine zr_sld S hsc hbl hE.2 (k := 4) (zix i 4 (by decide)) (by omega) hL dL_law_252 ?_
  refine zr_i (zr_runV (As := [.int (xs (i + 1)), .int (xs (i + 2)), .int (xs (i + 3)), .int (xs (i + 4))]) S hX hE (kX7_run l D tc s.heap.size ad (zws adM tc zshM znnM mw) zq (xs (i + 1)) (xs (i + 2)) (xs (i + 3)) (xs (i + 4)) cw r c1 e1) zyX7_run qm_L_13 zcl_X7 rfl (zc_0 cw) ⟨rfl, rfl⟩ ⟨Nat.le_of_ble_eq_true rfl, Nat.le_of_ble_eq_true rfl⟩ rfl hl.1 rfl (Nat.le_of_ble_eq_true rfl) dL_law_253 ⟨by show cells + 0 ≤ 600000; omega, by show slots + 0 ≤ 7302250; omega⟩) hE (fun H locs hE => ?_)
  have hE := zE_swap hE
  refine lv_aload_n hx hb dL_law_256 rfl (lv_at hl 2 rfl) ?_
  refine lv_aload_n hx hb dL_law_257 rfl (lv_at hl 0 rfl) ?_
  refine lv_iload_n hx hb dL_law_258 rfl (lv_at hl 3 rfl) ?_
  refine lv_iconst (v := 1) hx hb dL_law_259 (by decide) ?_
  refine lv_iadd hx hb dL_law_260 ?_
  refine zr_sld S hsc hbl hE.2 (k := 1) (zix i 1 (by decide)) (by omega) hL dL_law_261 ?_
  refine lv_aload_n hx hb dL_law_262 rfl (lv_at hl 0 rfl) ?_
  refine lv_iload_n hx hb dL_law_263 rfl (lv_at hl 3 rfl) ?_
  refine lv_iconst (v := 2) hx hb dL_law_264 (by decide) ?_
  refine lv_iadd hx hb dL_law_265 ?_
  refine zr_sld S hsc hbl hE.2 (k := 2) (zix i 2 (by decide)) (by omega) hL dL_law_266 ?_
  refine lv_aload_n hx hb dL_law_267 rfl (lv_at hl 0 rfl) ?_
  refine lv_iload_n hx hb dL_law_268 rfl (lv_at hl 3 rfl) ?_
  refine lv_iconst (v := 3) hx hb dL_law_269 (by decide) ?_
  refine lv_iadd hx hb dL_law_270 ?_
  refine zr_sld S hsc hbl hE.2 (k := 3) (zix i 3 (by decide)) (by omega) hL dL_law_271 ?_
  refine lv_aload_n hx hb dL_law_272 rfl (lv_at hl 0 rfl) ?_
  refine lv_iload_n hx hb dL_law_273 rfl (lv_at hl 3 rfl) ?_
  refine lv_iconst (v := 4) hx hb dL_law_274 (by decide) ?_
  refine lv_iadd hx hb dL_law_275 ?_
  refine zr_sld S hsc hbl hE.2 (k := 4) (zix i 4 (by decide)) (by omega) hL dL_law_276 ?_
  refine zr_i (zr_runV (As := [.int (xs (i + 1)), .int (xs (i + 2)), .int (xs (i + 3)), .int (xs (i + 4))]) S hX hE (kX8_run l D tc s.heap.size adM (zws ad tc zshC znnC c1) zq (xs (i + 1)) (xs (i + 2)) (xs (i + 3)) (xs (i + 4)) mw r m1 e2) zyX8_run qm_L_17 zcl_X8 rfl (zm_0 mw) ⟨rfl, rfl⟩ ⟨Nat.le_of_ble_eq_true rfl, Nat.le_of_ble_eq_true rfl⟩ rfl hl.1 rfl (Nat.le_of_ble_eq_true rfl) dL_law_277 ⟨by show cells + 0 + 0 ≤ 600000; omega, by show slots + 0 + 0 ≤ 7302250; omega⟩) hE (fun H locs hE => ?_)
  have hE := zE_swap hE
  refine lv_icmp_eq (tgt := 1650) hx hb dL_law_280 (by decide) (fun _ => ?_) (fun c9 => absurd rfl c9)
  refine W.widen (k := cells + 3) (n := slots + 196) (Nat.le_add_right _ _) (Nat.le_add_right _ _) ?_
  exact kk ad c1 m1 _ _ hR2 (rfl) hE
set_option maxHeartbeats 4000000 in
set_option maxRecDepth 100000 in
theorem zl_1 {p : Program} {l : Launch} {e : Env} {s : State} {m : MethodId} {below : List Frame} {meth : Method} {c : Code} {b L : Nat} {xs : Nat → Int32} {D : va_G} {tc : Nat → ClassId} {zq : zz_Q} {q0 : Cond} {Q : State → Prop} (S : CallFix p m c code 4 s #[Value.ref b] (q0 :: zw_tb) RL) (hX : zX s.heap.size D tc zq s) (hsc : va_X b L xs s s.heap) (hbl : b < s.heap.size) {i : Nat} (hi : i + 6 ≤ L) (hL : L ≤ 3072) {ad adM : Nat → Nat} {cw mw : zz_W} (hR : zRel cw mw) {H : Heap} {locs : List Loc} (hE : zE D tc s.heap.size ad zshC znnC (zws adM tc zshM znnM mw) cw s.heap H locs) {ls : Array Slot} (hl : lv_has ls 4 [(0, .ref b), (1, .ref (ad 0)), (2, .ref (adM 0)), (3, .int (nI i))]) {cells slots : Nat} (hc : cells + 3 ≤ 600000) (hs : slots + 196 ≤ 7302250) (kk : ∀ (ad2 : Nat → Nat) (cw2 mw2 : zz_W) (H2 : Heap) (locs2 : List Loc), zRel cw2 mw2 → ad2 0 = ad 0 → zE D tc s.heap.size ad2 zshC znnC (zws adM tc zshM znnM mw2) cw2 s.heap H2 locs2 → W p l e room_1 s m #[Value.ref b] below meth c H2 locs2 (cells + 3) (slots + 196) Q (F0 m 1650 ls [])) : W p l e room_1 s m #[Value.ref b] below meth c H locs cells slots Q (F0 m 285 ls []) := by
  have hx := S.1
  have hb := S.2.1
  obtain ⟨r, c1, m1, e1, e2, hR2⟩ := s_told (xs (i + 1)) (xs (i + 2)) cw mw hR
  refine lv_aload_n hx hb dL_law_285 rfl (lv_at hl 1 rfl) ?_
  refine lv_aload_n hx hb dL_law_286 rfl (lv_at hl 0 rfl) ?_
  refine lv_iload_n hx hb dL_law_287 rfl (lv_at hl 3 rfl) ?_
  refine lv_iconst (v := 1) hx hb dL_law_288 (by decide) ?_
  refine lv_iadd hx hb dL_law_289 ?_
  refine zr_sld S hsc hbl hE.2 (k := 1) (zix i 1 (by decide)) (by omega) hL dL_law_290 ?_
  refine lv_aload_n hx hb dL_law_291 rfl (lv_at hl 0 rfl) ?_
  refine lv_iload_n hx hb dL_law_292 rfl (lv_at hl 3 rfl) ?_
  refine lv_iconst (v := 2) hx hb dL_law_293 (by decide) ?_
  refine lv_iadd hx hb dL_law_294 ?_
  refine zr_sld S hsc hbl hE.2 (k := 2) (zix i 2 (by decide)) (by omega) hL dL_law_295 ?_
  refine zr_i (zr_runV (As := [.int (xs (i + 1)), .int (xs (i + 2))]) S hX hE (kX7_told l D tc s.heap.size ad (zws adM tc zshM znnM mw) zq (xs (i + 1)) (xs (i + 2)) cw r c1 e1) zyX7_told qm_L_18 zcl_X7 rfl (zc_0 cw) ⟨rfl, rfl⟩ ⟨Nat.le_of_ble_eq_true rfl, Nat.le_of_ble_eq_true rfl⟩ rfl hl.1 rfl (Nat.le_of_ble_eq_true rfl) dL_law_296 ⟨by show cells + 0 ≤ 600000; omega, by show slots + 0 ≤ 7302250; omega⟩) hE (fun H locs hE => ?_)
  have hE := zE_swap hE
  refine lv_aload_n hx hb dL_law_299 rfl (lv_at hl 2 rfl) ?_
  refine lv_aload_n hx hb dL_law_300 rfl (lv_at hl 0 rfl) ?_
  refine lv_iload_n hx hb dL_law_301 rfl (lv_at hl 3 rfl) ?_
  refine lv_iconst (v := 1) hx hb dL_law_302 (by decide) ?_
  refine lv_iadd hx hb dL_law_303 ?_
  refine zr_sld S hsc hbl hE.2 (k := 1) (zix i 1 (by decide)) (by omega) hL dL_law_304 ?_
  refine lv_aload_n hx hb dL_law_305 rfl (lv_at hl 0 rfl) ?_
  refine lv_iload_n hx hb dL_law_306 rfl (lv_at hl 3 rfl) ?_
  refine lv_iconst (v := 2) hx hb dL_law_307 (by decide) ?_
  refine lv_iadd hx hb dL_law_308 ?_
  refine zr_sld S hsc hbl hE.2 (k := 2) (zix i 2 (by decide)) (by omega) hL dL_law_309 ?_
  refine zr_i (zr_runV (As := [.int (xs (i + 1)), .int (xs (i + 2))]) S hX hE (kX8_told l D tc s.heap.size adM (zws ad tc zshC znnC c1) zq (xs (i + 1)) (xs (i + 2)) mw r m1 e2) zyX8_told qm_L_22 zcl_X8 rfl (zm_0 mw) ⟨rfl, rfl⟩ ⟨Nat.le_of_ble_eq_true rfl, Nat.le_of_ble_eq_true rfl⟩ rfl hl.1 rfl (Nat.le_of_ble_eq_true rfl) dL_law_310 ⟨by show cells + 0 + 0 ≤ 600000; omega, by show slots + 0 + 0 ≤ 7302250; omega⟩) hE (fun H locs hE => ?_)
  have hE := zE_swap hE
  refine lv_icmp_eq (tgt := 1650) hx hb dL_law_313 (by decide) (fun _ => ?_) (fun c9 => absurd rfl c9)
  refine W.widen (k := cells + 3) (n := slots + 196) (Nat.le_add_right _ _) (Nat.le_add_right _ _) ?_
  exact kk ad c1 m1 _ _ hR2 (rfl) hE
set_option maxHeartbeats 4000000 in
set_option maxRecDepth 100000 in
theorem zl_2 {p : Program} {l : Launch} {e : Env} {s : State} {m : MethodId} {below : List Frame} {meth : Method} {c : Code} {b L : Nat} {xs : Nat → Int32} {D : va_G} {tc : Nat → ClassId} {zq : zz_Q} {q0 : Cond} {Q : State → Prop} (S : CallFix p m c code 4 s #[Value.ref b] (q0 :: zw_tb) RL) (hX : zX s.heap.size D tc zq s) (hsc : va_X b L xs s s.heap) (hbl : b < s.heap.size) {i : Nat} (hi : i + 6 ≤ L) (hL : L ≤ 3072) {ad adM : Nat → Nat} {cw mw : zz_W} (hR : zRel cw mw) {H : Heap} {locs : List Loc} (hE : zE D tc s.heap.size ad zshC znnC (zws adM tc zshM znnM mw) cw s.heap H locs) {ls : Array Slot} (hl : lv_has ls 4 [(0, .ref b), (1, .ref (ad 0)), (2, .ref (adM 0)), (3, .int (nI i))]) {cells slots : Nat} (hc : cells + 3 ≤ 600000) (hs : slots + 196 ≤ 7302250) (kk : ∀ (ad2 : Nat → Nat) (cw2 mw2 : zz_W) (H2 : Heap) (locs2 : List Loc), zRel cw2 mw2 → ad2 0 = ad 0 → zE D tc s.heap.size ad2 zshC znnC (zws adM tc zshM znnM mw2) cw2 s.heap H2 locs2 → W p l e room_1 s m #[Value.ref b] below meth c H2 locs2 (cells + 3) (slots + 196) Q (F0 m 1650 ls [])) : W p l e room_1 s m #[Value.ref b] below meth c H locs cells slots Q (F0 m 318 ls []) := by
  have hx := S.1
  have hb := S.2.1
  obtain ⟨r, c1, m1, e1, e2, hR2⟩ := s_as (xs (i + 1)) (xs (i + 2)) cw mw hR
  refine lv_aload_n hx hb dL_law_318 rfl (lv_at hl 1 rfl) ?_
  refine lv_aload_n hx hb dL_law_319 rfl (lv_at hl 0 rfl) ?_
  refine lv_iload_n hx hb dL_law_320 rfl (lv_at hl 3 rfl) ?_
  refine lv_iconst (v := 1) hx hb dL_law_321 (by decide) ?_
  refine lv_iadd hx hb dL_law_322 ?_
  refine zr_sld S hsc hbl hE.2 (k := 1) (zix i 1 (by decide)) (by omega) hL dL_law_323 ?_
  refine lv_aload_n hx hb dL_law_324 rfl (lv_at hl 0 rfl) ?_
  refine lv_iload_n hx hb dL_law_325 rfl (lv_at hl 3 rfl) ?_
  refine lv_iconst (v := 2) hx hb dL_law_326 (by decide) ?_
  refine lv_iadd hx hb dL_law_327 ?_
  refine zr_sld S hsc hbl hE.2 (k := 2) (zix i 2 (by decide)) (by omega) hL dL_law_328 ?_
  refine zr_i (zr_runV (As := [.int (xs (i + 1)), .int (xs (i + 2))]) S hX hE (kX7_as l D tc s.heap.size ad (zws adM tc zshM znnM mw) zq (xs (i + 1)) (xs (i + 2)) cw r c1 e1) zyX7_as qm_L_23 zcl_X7 rfl (zc_0 cw) ⟨rfl, rfl⟩ ⟨Nat.le_of_ble_eq_true rfl, Nat.le_of_ble_eq_true rfl⟩ rfl hl.1 rfl (Nat.le_of_ble_eq_true rfl) dL_law_329 ⟨by show cells + 0 ≤ 600000; omega, by show slots + 0 ≤ 7302250; omega⟩) hE (fun H locs hE => ?_)
  have hE := zE_swap hE
  refine lv_aload_n hx hb dL_law_332 rfl (lv_at hl 2 rfl) ?_
  refine lv_aload_n hx hb dL_law_333 rfl (lv_at hl 0 rfl) ?_
  refine lv_iload_n hx hb dL_law_334 rfl (lv_at hl 3 rfl) ?_
  refine lv_iconst (v := 1) hx hb dL_law_335 (by decide) ?_
  refine lv_iadd hx hb dL_law_336 ?_
  refine zr_sld S hsc hbl hE.2 (k := 1) (zix i 1 (by decide)) (by omega) hL dL_law_337 ?_
  refine lv_aload_n hx hb dL_law_338 rfl (lv_at hl 0 rfl) ?_
  refine lv_iload_n hx hb dL_law_339 rfl (lv_at hl 3 rfl) ?_
  refine lv_iconst (v := 2) hx hb dL_law_340 (by decide) ?_
  refine lv_iadd hx hb dL_law_341 ?_
  refine zr_sld S hsc hbl hE.2 (k := 2) (zix i 2 (by decide)) (by omega) hL dL_law_342 ?_
  refine zr_i (zr_runV (As := [.int (xs (i + 1)), .int (xs (i + 2))]) S hX hE (kX8_as l D tc s.heap.size adM (zws ad tc zshC znnC c1) zq (xs (i + 1)) (xs (i + 2)) mw r m1 e2) zyX8_as qm_L_26 zcl_X8 rfl (zm_0 mw) ⟨rfl, rfl⟩ ⟨Nat.le_of_ble_eq_true rfl, Nat.le_of_ble_eq_true rfl⟩ rfl hl.1 rfl (Nat.le_of_ble_eq_true rfl) dL_law_343 ⟨by show cells + 0 + 0 ≤ 600000; omega, by show slots + 0 + 0 ≤ 7302250; omega⟩) hE (fun H locs hE => ?_)
  have hE := zE_swap hE
  refine lv_icmp_eq (tgt := 1650) hx hb dL_law_346 (by decide) (fun _ => ?_) (fun c9 => absurd rfl c9)
  refine W.widen (k := cells + 3) (n := slots + 196) (Nat.le_add_right _ _) (Nat.le_add_right _ _) ?_
  exact kk ad c1 m1 _ _ hR2 (rfl) hE
set_option maxHeartbeats 4000000 in
set_option maxRecDepth 100000 in
theorem zl_3 {p : Program} {l : Launch} {e : Env} {s : State} {m : MethodId} {below : List Frame} {meth : Method} {c : Code} {b L : Nat} {xs : Nat → Int32} {D : va_G} {tc : Nat → ClassId} {zq : zz_Q} {q0 : Cond} {Q : State → Prop} (S : CallFix p m c code 4 s #[Value.ref b] (q0 :: zw_tb) RL) (hX : zX s.heap.size D tc zq s) (hsc : va_X b L xs s s.heap) (hbl : b < s.heap.size) {i : Nat} (hi : i + 6 ≤ L) (hL : L ≤ 3072) {ad adM : Nat → Nat} {cw mw : zz_W} (hR : zRel cw mw) {H : Heap} {locs : List Loc} (hE : zE D tc s.heap.size ad zshC znnC (zws adM tc zshM znnM mw) cw s.heap H locs) {ls : Array Slot} (hl : lv_has ls 4 [(0, .ref b), (1, .ref (ad 0)), (2, .ref (adM 0)), (3, .int (nI i))]) {cells slots : Nat} (hc : cells + 3 ≤ 600000) (hs : slots + 196 ≤ 7302250) (kk : ∀ (ad2 : Nat → Nat) (cw2 mw2 : zz_W) (H2 : Heap) (locs2 : List Loc), zRel cw2 mw2 → ad2 0 = ad 0 → zE D tc s.heap.size ad2 zshC znnC (zws adM tc zshM znnM mw2) cw2 s.heap H2 locs2 → W p l e room_1 s m #[Value.ref b] below meth c H2 locs2 (cells + 3) (slots + 196) Q (F0 m 1650 ls [])) : W p l e room_1 s m #[Value.ref b] below meth c H locs cells slots Q (F0 m 351 ls []) := by
  have hx := S.1
  have hb := S.2.1
  obtain ⟨r, c1, m1, e1, e2, hR2⟩ := s_turns (xs (i + 1)) (xs (i + 2)) cw mw hR
  refine lv_aload_n hx hb dL_law_351 rfl (lv_at hl 1 rfl) ?_
  refine lv_aload_n hx hb dL_law_352 rfl (lv_at hl 0 rfl) ?_
  refine lv_iload_n hx hb dL_law_353 rfl (lv_at hl 3 rfl) ?_
  refine lv_iconst (v := 1) hx hb dL_law_354 (by decide) ?_
  refine lv_iadd hx hb dL_law_355 ?_
  refine zr_sld S hsc hbl hE.2 (k := 1) (zix i 1 (by decide)) (by omega) hL dL_law_356 ?_
  refine lv_aload_n hx hb dL_law_357 rfl (lv_at hl 0 rfl) ?_
  refine lv_iload_n hx hb dL_law_358 rfl (lv_at hl 3 rfl) ?_
  refine lv_iconst (v := 2) hx hb dL_law_359 (by decide) ?_
  refine lv_iadd hx hb dL_law_360 ?_
  refine zr_sld S hsc hbl hE.2 (k := 2) (zix i 2 (by decide)) (by omega) hL dL_law_361 ?_
  refine zr_i (zr_runV (As := [.int (xs (i + 1)), .int (xs (i + 2))]) S hX hE (kX7_turns l D tc s.heap.size ad (zws adM tc zshM znnM mw) zq (xs (i + 1)) (xs (i + 2)) cw r c1 e1) zyX7_turns qm_L_27 zcl_X7 rfl (zc_0 cw) ⟨rfl, rfl⟩ ⟨Nat.le_of_ble_eq_true rfl, Nat.le_of_ble_eq_true rfl⟩ rfl hl.1 rfl (Nat.le_of_ble_eq_true rfl) dL_law_362 ⟨by show cells + 0 ≤ 600000; omega, by show slots + 0 ≤ 7302250; omega⟩) hE (fun H locs hE => ?_)
  have hE := zE_swap hE
  refine lv_aload_n hx hb dL_law_365 rfl (lv_at hl 2 rfl) ?_
  refine lv_aload_n hx hb dL_law_366 rfl (lv_at hl 0 rfl) ?_
  refine lv_iload_n hx hb dL_law_367 rfl (lv_at hl 3 rfl) ?_
  refine lv_iconst (v := 1) hx hb dL_law_368 (by decide) ?_
  refine lv_iadd hx hb dL_law_369 ?_
  refine zr_sld S hsc hbl hE.2 (k := 1) (zix i 1 (by decide)) (by omega) hL dL_law_370 ?_
  refine lv_aload_n hx hb dL_law_371 rfl (lv_at hl 0 rfl) ?_
  refine lv_iload_n hx hb dL_law_372 rfl (lv_at hl 3 rfl) ?_
  refine lv_iconst (v := 2) hx hb dL_law_373 (by decide) ?_
  refine lv_iadd hx hb dL_law_374 ?_
  refine zr_sld S hsc hbl hE.2 (k := 2) (zix i 2 (by decide)) (by omega) hL dL_law_375 ?_
  refine zr_i (zr_runV (As := [.int (xs (i + 1)), .int (xs (i + 2))]) S hX hE (kX8_turns l D tc s.heap.size adM (zws ad tc zshC znnC c1) zq (xs (i + 1)) (xs (i + 2)) mw r m1 e2) zyX8_turns qm_L_30 zcl_X8 rfl (zm_0 mw) ⟨rfl, rfl⟩ ⟨Nat.le_of_ble_eq_true rfl, Nat.le_of_ble_eq_true rfl⟩ rfl hl.1 rfl (Nat.le_of_ble_eq_true rfl) dL_law_376 ⟨by show cells + 0 + 0 ≤ 600000; omega, by show slots + 0 + 0 ≤ 7302250; omega⟩) hE (fun H locs hE => ?_)
  have hE := zE_swap hE
  refine lv_icmp_eq (tgt := 1650) hx hb dL_law_379 (by decide) (fun _ => ?_) (fun c9 => absurd rfl c9)
  refine W.widen (k := cells + 3) (n := slots + 196) (Nat.le_add_right _ _) (Nat.le_add_right _ _) ?_
  exact kk ad c1 m1 _ _ hR2 (rfl) hE
set_option maxHeartbeats 4000000 in
set_option maxRecDepth 100000 in
theorem zl_4 {p : Program} {l : Launch} {e : Env} {s : State} {m : MethodId} {below : List Frame} {meth : Method} {c : Code} {b L : Nat} {xs : Nat → Int32} {D : va_G} {tc : Nat → ClassId} {zq : zz_Q} {q0 : Cond} {Q : State → Prop} (S : CallFix p m c code 4 s #[Value.ref b] (q0 :: zw_tb) RL) (hX : zX s.heap.size D tc zq s) (hsc : va_X b L xs s s.heap) (hbl : b < s.heap.size) {i : Nat} (hi : i + 6 ≤ L) (hL : L ≤ 3072) {ad adM : Nat → Nat} {cw mw : zz_W} (hR : zRel cw mw) {H : Heap} {locs : List Loc} (hE : zE D tc s.heap.size ad zshC znnC (zws adM tc zshM znnM mw) cw s.heap H locs) {ls : Array Slot} (hl : lv_has ls 4 [(0, .ref b), (1, .ref (ad 0)), (2, .ref (adM 0)), (3, .int (nI i))]) {cells slots : Nat} (hc : cells + 3 ≤ 600000) (hs : slots + 196 ≤ 7302250) (kk : ∀ (ad2 : Nat → Nat) (cw2 mw2 : zz_W) (H2 : Heap) (locs2 : List Loc), zRel cw2 mw2 → ad2 0 = ad 0 → zE D tc s.heap.size ad2 zshC znnC (zws adM tc zshM znnM mw2) cw2 s.heap H2 locs2 → W p l e room_1 s m #[Value.ref b] below meth c H2 locs2 (cells + 3) (slots + 196) Q (F0 m 1650 ls [])) : W p l e room_1 s m #[Value.ref b] below meth c H locs cells slots Q (F0 m 384 ls []) := by
  have hx := S.1
  have hb := S.2.1
  obtain ⟨r, c1, m1, e1, e2, hR2⟩ := s_set (xs (i + 1)) (xs (i + 2)) (xs (i + 3)) cw mw hR
  refine lv_aload_n hx hb dL_law_384 rfl (lv_at hl 1 rfl) ?_
  refine lv_aload_n hx hb dL_law_385 rfl (lv_at hl 0 rfl) ?_
  refine lv_iload_n hx hb dL_law_386 rfl (lv_at hl 3 rfl) ?_
  refine lv_iconst (v := 1) hx hb dL_law_387 (by decide) ?_
  refine lv_iadd hx hb dL_law_388 ?_
  refine zr_sld S hsc hbl hE.2 (k := 1) (zix i 1 (by decide)) (by omega) hL dL_law_389 ?_
  refine lv_aload_n hx hb dL_law_390 rfl (lv_at hl 0 rfl) ?_
  refine lv_iload_n hx hb dL_law_391 rfl (lv_at hl 3 rfl) ?_
  refine lv_iconst (v := 2) hx hb dL_law_392 (by decide) ?_
  refine lv_iadd hx hb dL_law_393 ?_
  refine zr_sld S hsc hbl hE.2 (k := 2) (zix i 2 (by decide)) (by omega) hL dL_law_394 ?_
  refine lv_aload_n hx hb dL_law_395 rfl (lv_at hl 0 rfl) ?_
  refine lv_iload_n hx hb dL_law_396 rfl (lv_at hl 3 rfl) ?_
  refine lv_iconst (v := 3) hx hb dL_law_397 (by decide) ?_
  refine lv_iadd hx hb dL_law_398 ?_
  refine zr_sld S hsc hbl hE.2 (k := 3) (zix i 3 (by decide)) (by omega) hL dL_law_399 ?_
  refine zr_i (zr_runV (As := [.int (xs (i + 1)), .int (xs (i + 2)), .int (xs (i + 3))]) S hX hE (kX7_set l D tc s.heap.size ad (zws adM tc zshM znnM mw) zq (xs (i + 1)) (xs (i + 2)) (xs (i + 3)) cw r c1 e1) zyX7_set qm_L_31 zcl_X7 rfl (zc_0 cw) ⟨rfl, rfl⟩ ⟨Nat.le_of_ble_eq_true rfl, Nat.le_of_ble_eq_true rfl⟩ rfl hl.1 rfl (Nat.le_of_ble_eq_true rfl) dL_law_400 ⟨by show cells + 0 ≤ 600000; omega, by show slots + 0 ≤ 7302250; omega⟩) hE (fun H locs hE => ?_)
  have hE := zE_swap hE
  refine lv_aload_n hx hb dL_law_403 rfl (lv_at hl 2 rfl) ?_
  refine lv_aload_n hx hb dL_law_404 rfl (lv_at hl 0 rfl) ?_
  refine lv_iload_n hx hb dL_law_405 rfl (lv_at hl 3 rfl) ?_
  refine lv_iconst (v := 1) hx hb dL_law_406 (by decide) ?_
  refine lv_iadd hx hb dL_law_407 ?_
  refine zr_sld S hsc hbl hE.2 (k := 1) (zix i 1 (by decide)) (by omega) hL dL_law_408 ?_
  refine lv_aload_n hx hb dL_law_409 rfl (lv_at hl 0 rfl) ?_
  refine lv_iload_n hx hb dL_law_410 rfl (lv_at hl 3 rfl) ?_
  refine lv_iconst (v := 2) hx hb dL_law_411 (by decide) ?_
  refine lv_iadd hx hb dL_law_412 ?_
  refine zr_sld S hsc hbl hE.2 (k := 2) (zix i 2 (by decide)) (by omega) hL dL_law_413 ?_
  refine lv_aload_n hx hb dL_law_414 rfl (lv_at hl 0 rfl) ?_
  refine lv_iload_n hx hb dL_law_415 rfl (lv_at hl 3 rfl) ?_
  refine lv_iconst (v := 3) hx hb dL_law_416 (by decide) ?_
  refine lv_iadd hx hb dL_law_417 ?_
  refine zr_sld S hsc hbl hE.2 (k := 3) (zix i 3 (by decide)) (by omega) hL dL_law_418 ?_
  refine zr_i (zr_runV (As := [.int (xs (i + 1)), .int (xs (i + 2)), .int (xs (i + 3))]) S hX hE (kX8_set l D tc s.heap.size adM (zws ad tc zshC znnC c1) zq (xs (i + 1)) (xs (i + 2)) (xs (i + 3)) mw r m1 e2) zyX8_set qm_L_35 zcl_X8 rfl (zm_0 mw) ⟨rfl, rfl⟩ ⟨Nat.le_of_ble_eq_true rfl, Nat.le_of_ble_eq_true rfl⟩ rfl hl.1 rfl (Nat.le_of_ble_eq_true rfl) dL_law_419 ⟨by show cells + 0 + 0 ≤ 600000; omega, by show slots + 0 + 0 ≤ 7302250; omega⟩) hE (fun H locs hE => ?_)
  have hE := zE_swap hE
  refine lv_icmp_eq (tgt := 1650) hx hb dL_law_422 (by decide) (fun _ => ?_) (fun c9 => absurd rfl c9)
  refine W.widen (k := cells + 3) (n := slots + 196) (Nat.le_add_right _ _) (Nat.le_add_right _ _) ?_
  exact kk ad c1 m1 _ _ hR2 (rfl) hE
set_option maxHeartbeats 4000000 in
set_option maxRecDepth 100000 in
theorem zl_5 {p : Program} {l : Launch} {e : Env} {s : State} {m : MethodId} {below : List Frame} {meth : Method} {c : Code} {b L : Nat} {xs : Nat → Int32} {D : va_G} {tc : Nat → ClassId} {zq : zz_Q} {q0 : Cond} {Q : State → Prop} (S : CallFix p m c code 4 s #[Value.ref b] (q0 :: zw_tb) RL) (hX : zX s.heap.size D tc zq s) (hsc : va_X b L xs s s.heap) (hbl : b < s.heap.size) {i : Nat} (hi : i + 6 ≤ L) (hL : L ≤ 3072) {ad adM : Nat → Nat} {cw mw : zz_W} (hR : zRel cw mw) {H : Heap} {locs : List Loc} (hE : zE D tc s.heap.size ad zshC znnC (zws adM tc zshM znnM mw) cw s.heap H locs) {ls : Array Slot} (hl : lv_has ls 4 [(0, .ref b), (1, .ref (ad 0)), (2, .ref (adM 0)), (3, .int (nI i))]) {cells slots : Nat} (hc : cells + 3 ≤ 600000) (hs : slots + 196 ≤ 7302250) (kk : ∀ (ad2 : Nat → Nat) (cw2 mw2 : zz_W) (H2 : Heap) (locs2 : List Loc), zRel cw2 mw2 → ad2 0 = ad 0 → zE D tc s.heap.size ad2 zshC znnC (zws adM tc zshM znnM mw2) cw2 s.heap H2 locs2 → W p l e room_1 s m #[Value.ref b] below meth c H2 locs2 (cells + 3) (slots + 196) Q (F0 m 1650 ls [])) : W p l e room_1 s m #[Value.ref b] below meth c H locs cells slots Q (F0 m 427 ls []) := by
  have hx := S.1
  have hb := S.2.1
  obtain ⟨r, c1, m1, e1, e2, hR2⟩ := s_passes (xs (i + 1)) (xs (i + 2)) cw mw hR
  refine lv_aload_n hx hb dL_law_427 rfl (lv_at hl 1 rfl) ?_
  refine lv_aload_n hx hb dL_law_428 rfl (lv_at hl 0 rfl) ?_
  refine lv_iload_n hx hb dL_law_429 rfl (lv_at hl 3 rfl) ?_
  refine lv_iconst (v := 1) hx hb dL_law_430 (by decide) ?_
  refine lv_iadd hx hb dL_law_431 ?_
  refine zr_sld S hsc hbl hE.2 (k := 1) (zix i 1 (by decide)) (by omega) hL dL_law_432 ?_
  refine lv_aload_n hx hb dL_law_433 rfl (lv_at hl 0 rfl) ?_
  refine lv_iload_n hx hb dL_law_434 rfl (lv_at hl 3 rfl) ?_
  refine lv_iconst (v := 2) hx hb dL_law_435 (by decide) ?_
  refine lv_iadd hx hb dL_law_436 ?_
  refine zr_sld S hsc hbl hE.2 (k := 2) (zix i 2 (by decide)) (by omega) hL dL_law_437 ?_
  refine zr_i (zr_runV (As := [.int (xs (i + 1)), .int (xs (i + 2))]) S hX hE (kX7_passes l D tc s.heap.size ad (zws adM tc zshM znnM mw) zq (xs (i + 1)) (xs (i + 2)) cw r c1 e1) zyX7_passes qm_L_36 zcl_X7 rfl (zc_0 cw) ⟨rfl, rfl⟩ ⟨Nat.le_of_ble_eq_true rfl, Nat.le_of_ble_eq_true rfl⟩ rfl hl.1 rfl (Nat.le_of_ble_eq_true rfl) dL_law_438 ⟨by show cells + 0 ≤ 600000; omega, by show slots + 0 ≤ 7302250; omega⟩) hE (fun H locs hE => ?_)
  have hE := zE_swap hE
  refine lv_aload_n hx hb dL_law_441 rfl (lv_at hl 2 rfl) ?_
  refine lv_aload_n hx hb dL_law_442 rfl (lv_at hl 0 rfl) ?_
  refine lv_iload_n hx hb dL_law_443 rfl (lv_at hl 3 rfl) ?_
  refine lv_iconst (v := 1) hx hb dL_law_444 (by decide) ?_
  refine lv_iadd hx hb dL_law_445 ?_
  refine zr_sld S hsc hbl hE.2 (k := 1) (zix i 1 (by decide)) (by omega) hL dL_law_446 ?_
  refine lv_aload_n hx hb dL_law_447 rfl (lv_at hl 0 rfl) ?_
  refine lv_iload_n hx hb dL_law_448 rfl (lv_at hl 3 rfl) ?_
  refine lv_iconst (v := 2) hx hb dL_law_449 (by decide) ?_
  refine lv_iadd hx hb dL_law_450 ?_
  refine zr_sld S hsc hbl hE.2 (k := 2) (zix i 2 (by decide)) (by omega) hL dL_law_451 ?_
  refine zr_i (zr_runV (As := [.int (xs (i + 1)), .int (xs (i + 2))]) S hX hE (kX8_passes l D tc s.heap.size adM (zws ad tc zshC znnC c1) zq (xs (i + 1)) (xs (i + 2)) mw r m1 e2) zyX8_passes qm_L_39 zcl_X8 rfl (zm_0 mw) ⟨rfl, rfl⟩ ⟨Nat.le_of_ble_eq_true rfl, Nat.le_of_ble_eq_true rfl⟩ rfl hl.1 rfl (Nat.le_of_ble_eq_true rfl) dL_law_452 ⟨by show cells + 0 + 0 ≤ 600000; omega, by show slots + 0 + 0 ≤ 7302250; omega⟩) hE (fun H locs hE => ?_)
  have hE := zE_swap hE
  refine lv_icmp_eq (tgt := 1650) hx hb dL_law_455 (by decide) (fun _ => ?_) (fun c9 => absurd rfl c9)
  refine W.widen (k := cells + 3) (n := slots + 196) (Nat.le_add_right _ _) (Nat.le_add_right _ _) ?_
  exact kk ad c1 m1 _ _ hR2 (rfl) hE
set_option maxHeartbeats 4000000 in
set_option maxRecDepth 100000 in
theorem zl_6 {p : Program} {l : Launch} {e : Env} {s : State} {m : MethodId} {below : List Frame} {meth : Method} {c : Code} {b L : Nat} {xs : Nat → Int32} {D : va_G} {tc : Nat → ClassId} {zq : zz_Q} {q0 : Cond} {Q : State → Prop} (S : CallFix p m c code 4 s #[Value.ref b] (q0 :: zw_tb) RL) (hX : zX s.heap.size D tc zq s) (hsc : va_X b L xs s s.heap) (hbl : b < s.heap.size) {i : Nat} (hi : i + 6 ≤ L) (hL : L ≤ 3072) {ad adM : Nat → Nat} {cw mw : zz_W} (hR : zRel cw mw) {H : Heap} {locs : List Loc} (hE : zE D tc s.heap.size ad zshC znnC (zws adM tc zshM znnM mw) cw s.heap H locs) {ls : Array Slot} (hl : lv_has ls 4 [(0, .ref b), (1, .ref (ad 0)), (2, .ref (adM 0)), (3, .int (nI i))]) {cells slots : Nat} (hc : cells + 3 ≤ 600000) (hs : slots + 196 ≤ 7302250) (kk : ∀ (ad2 : Nat → Nat) (cw2 mw2 : zz_W) (H2 : Heap) (locs2 : List Loc), zRel cw2 mw2 → ad2 0 = ad 0 → zE D tc s.heap.size ad2 zshC znnC (zws adM tc zshM znnM mw2) cw2 s.heap H2 locs2 → W p l e room_1 s m #[Value.ref b] below meth c H2 locs2 (cells + 3) (slots + 196) Q (F0 m 1650 ls [])) : W p l e room_1 s m #[Value.ref b] below meth c H locs cells slots Q (F0 m 460 ls []) := by
  have hx := S.1
  have hb := S.2.1
  obtain ⟨r, c1, m1, e1, e2, hR2⟩ := s_tells (xs (i + 1)) (xs (i + 2)) (xs (i + 3)) cw mw hR
  refine lv_aload_n hx hb dL_law_460 rfl (lv_at hl 1 rfl) ?_
  refine lv_aload_n hx hb dL_law_461 rfl (lv_at hl 0 rfl) ?_
  refine lv_iload_n hx hb dL_law_462 rfl (lv_at hl 3 rfl) ?_
  refine lv_iconst (v := 1) hx hb dL_law_463 (by decide) ?_
  refine lv_iadd hx hb dL_law_464 ?_
  refine zr_sld S hsc hbl hE.2 (k := 1) (zix i 1 (by decide)) (by omega) hL dL_law_465 ?_
  refine lv_aload_n hx hb dL_law_466 rfl (lv_at hl 0 rfl) ?_
  refine lv_iload_n hx hb dL_law_467 rfl (lv_at hl 3 rfl) ?_
  refine lv_iconst (v := 2) hx hb dL_law_468 (by decide) ?_
  refine lv_iadd hx hb dL_law_469 ?_
  refine zr_sld S hsc hbl hE.2 (k := 2) (zix i 2 (by decide)) (by omega) hL dL_law_470 ?_
  refine lv_aload_n hx hb dL_law_471 rfl (lv_at hl 0 rfl) ?_
  refine lv_iload_n hx hb dL_law_472 rfl (lv_at hl 3 rfl) ?_
  refine lv_iconst (v := 3) hx hb dL_law_473 (by decide) ?_
  refine lv_iadd hx hb dL_law_474 ?_
  refine zr_sld S hsc hbl hE.2 (k := 3) (zix i 3 (by decide)) (by omega) hL dL_law_475 ?_
  refine zr_i (zr_runV (As := [.int (xs (i + 1)), .int (xs (i + 2)), .int (xs (i + 3))]) S hX hE (kX7_tells l D tc s.heap.size ad (zws adM tc zshM znnM mw) zq (xs (i + 1)) (xs (i + 2)) (xs (i + 3)) cw r c1 e1) zyX7_tells qm_L_40 zcl_X7 rfl (zc_0 cw) ⟨rfl, rfl⟩ ⟨Nat.le_of_ble_eq_true rfl, Nat.le_of_ble_eq_true rfl⟩ rfl hl.1 rfl (Nat.le_of_ble_eq_true rfl) dL_law_476 ⟨by show cells + 0 ≤ 600000; omega, by show slots + 0 ≤ 7302250; omega⟩) hE (fun H locs hE => ?_)
  have hE := zE_swap hE
  refine lv_aload_n hx hb dL_law_479 rfl (lv_at hl 2 rfl) ?_
  refine lv_aload_n hx hb dL_law_480 rfl (lv_at hl 0 rfl) ?_
  refine lv_iload_n hx hb dL_law_481 rfl (lv_at hl 3 rfl) ?_
  refine lv_iconst (v := 1) hx hb dL_law_482 (by decide) ?_
  refine lv_iadd hx hb dL_law_483 ?_
  refine zr_sld S hsc hbl hE.2 (k := 1) (zix i 1 (by decide)) (by omega) hL dL_law_484 ?_
  refine lv_aload_n hx hb dL_law_485 rfl (lv_at hl 0 rfl) ?_
  refine lv_iload_n hx hb dL_law_486 rfl (lv_at hl 3 rfl) ?_
  refine lv_iconst (v := 2) hx hb dL_law_487 (by decide) ?_
  refine lv_iadd hx hb dL_law_488 ?_
  refine zr_sld S hsc hbl hE.2 (k := 2) (zix i 2 (by decide)) (by omega) hL dL_law_489 ?_
  refine lv_aload_n hx hb dL_law_490 rfl (lv_at hl 0 rfl) ?_
  refine lv_iload_n hx hb dL_law_491 rfl (lv_at hl 3 rfl) ?_
  refine lv_iconst (v := 3) hx hb dL_law_492 (by decide) ?_
  refine lv_iadd hx hb dL_law_493 ?_
  refine zr_sld S hsc hbl hE.2 (k := 3) (zix i 3 (by decide)) (by omega) hL dL_law_494 ?_
  refine zr_i (zr_runV (As := [.int (xs (i + 1)), .int (xs (i + 2)), .int (xs (i + 3))]) S hX hE (kX8_tells l D tc s.heap.size adM (zws ad tc zshC znnC c1) zq (xs (i + 1)) (xs (i + 2)) (xs (i + 3)) mw r m1 e2) zyX8_tells qm_L_43 zcl_X8 rfl (zm_0 mw) ⟨rfl, rfl⟩ ⟨Nat.le_of_ble_eq_true rfl, Nat.le_of_ble_eq_true rfl⟩ rfl hl.1 rfl (Nat.le_of_ble_eq_true rfl) dL_law_495 ⟨by show cells + 0 + 0 ≤ 600000; omega, by show slots + 0 + 0 ≤ 7302250; omega⟩) hE (fun H locs hE => ?_)
  have hE := zE_swap hE
  refine lv_icmp_eq (tgt := 1650) hx hb dL_law_498 (by decide) (fun _ => ?_) (fun c9 => absurd rfl c9)
  refine W.widen (k := cells + 3) (n := slots + 196) (Nat.le_add_right _ _) (Nat.le_add_right _ _) ?_
  exact kk ad c1 m1 _ _ hR2 (rfl) hE
set_option maxHeartbeats 4000000 in
set_option maxRecDepth 100000 in
theorem zl_7 {p : Program} {l : Launch} {e : Env} {s : State} {m : MethodId} {below : List Frame} {meth : Method} {c : Code} {b L : Nat} {xs : Nat → Int32} {D : va_G} {tc : Nat → ClassId} {zq : zz_Q} {q0 : Cond} {Q : State → Prop} (S : CallFix p m c code 4 s #[Value.ref b] (q0 :: zw_tb) RL) (hX : zX s.heap.size D tc zq s) (hsc : va_X b L xs s s.heap) (hbl : b < s.heap.size) {i : Nat} (hi : i + 6 ≤ L) (hL : L ≤ 3072) {ad adM : Nat → Nat} {cw mw : zz_W} (hR : zRel cw mw) {H : Heap} {locs : List Loc} (hE : zE D tc s.heap.size ad zshC znnC (zws adM tc zshM znnM mw) cw s.heap H locs) {ls : Array Slot} (hl : lv_has ls 4 [(0, .ref b), (1, .ref (ad 0)), (2, .ref (adM 0)), (3, .int (nI i))]) {cells slots : Nat} (hc : cells + 3 ≤ 600000) (hs : slots + 196 ≤ 7302250) (kk : ∀ (ad2 : Nat → Nat) (cw2 mw2 : zz_W) (H2 : Heap) (locs2 : List Loc), zRel cw2 mw2 → ad2 0 = ad 0 → zE D tc s.heap.size ad2 zshC znnC (zws adM tc zshM znnM mw2) cw2 s.heap H2 locs2 → W p l e room_1 s m #[Value.ref b] below meth c H2 locs2 (cells + 3) (slots + 196) Q (F0 m 1650 ls [])) : W p l e room_1 s m #[Value.ref b] below meth c H locs cells slots Q (F0 m 503 ls []) := by
  have hx := S.1
  have hb := S.2.1
  obtain ⟨r, c1, m1, e1, e2, hR2⟩ := s_deal (xs (i + 1)) cw mw hR
  refine lv_aload_n hx hb dL_law_503 rfl (lv_at hl 1 rfl) ?_
  refine lv_aload_n hx hb dL_law_504 rfl (lv_at hl 0 rfl) ?_
  refine lv_iload_n hx hb dL_law_505 rfl (lv_at hl 3 rfl) ?_
  refine lv_iconst (v := 1) hx hb dL_law_506 (by decide) ?_
  refine lv_iadd hx hb dL_law_507 ?_
  refine zr_sld S hsc hbl hE.2 (k := 1) (zix i 1 (by decide)) (by omega) hL dL_law_508 ?_
  refine zr_i (zr_runV (As := [.int (xs (i + 1))]) S hX hE (kX7_deal l D tc s.heap.size ad (zws adM tc zshM znnM mw) zq (xs (i + 1)) cw r c1 e1) zyX7_deal qm_L_44 zcl_X7 rfl (zc_0 cw) ⟨rfl, rfl⟩ ⟨Nat.le_of_ble_eq_true rfl, Nat.le_of_ble_eq_true rfl⟩ rfl hl.1 rfl (Nat.le_of_ble_eq_true rfl) dL_law_509 ⟨by show cells + 0 ≤ 600000; omega, by show slots + 0 ≤ 7302250; omega⟩) hE (fun H locs hE => ?_)
  have hE := zE_swap hE
  refine lv_aload_n hx hb dL_law_512 rfl (lv_at hl 2 rfl) ?_
  refine lv_aload_n hx hb dL_law_513 rfl (lv_at hl 0 rfl) ?_
  refine lv_iload_n hx hb dL_law_514 rfl (lv_at hl 3 rfl) ?_
  refine lv_iconst (v := 1) hx hb dL_law_515 (by decide) ?_
  refine lv_iadd hx hb dL_law_516 ?_
  refine zr_sld S hsc hbl hE.2 (k := 1) (zix i 1 (by decide)) (by omega) hL dL_law_517 ?_
  refine zr_i (zr_runV (As := [.int (xs (i + 1))]) S hX hE (kX8_deal l D tc s.heap.size adM (zws ad tc zshC znnC c1) zq (xs (i + 1)) mw r m1 e2) zyX8_deal qm_L_48 zcl_X8 rfl (zm_0 mw) ⟨rfl, rfl⟩ ⟨Nat.le_of_ble_eq_true rfl, Nat.le_of_ble_eq_true rfl⟩ rfl hl.1 rfl (Nat.le_of_ble_eq_true rfl) dL_law_518 ⟨by show cells + 0 + 0 ≤ 600000; omega, by show slots + 0 + 0 ≤ 7302250; omega⟩) hE (fun H locs hE => ?_)
  have hE := zE_swap hE
  refine lv_icmp_eq (tgt := 1650) hx hb dL_law_521 (by decide) (fun _ => ?_) (fun c9 => absurd rfl c9)
  refine W.widen (k := cells + 3) (n := slots + 196) (Nat.le_add_right _ _) (Nat.le_add_right _ _) ?_
  exact kk ad c1 m1 _ _ hR2 (rfl) hE
set_option maxHeartbeats 4000000 in
set_option maxRecDepth 100000 in
theorem zl_8 {p : Program} {l : Launch} {e : Env} {s : State} {m : MethodId} {below : List Frame} {meth : Method} {c : Code} {b L : Nat} {xs : Nat → Int32} {D : va_G} {tc : Nat → ClassId} {zq : zz_Q} {q0 : Cond} {Q : State → Prop} (S : CallFix p m c code 4 s #[Value.ref b] (q0 :: zw_tb) RL) (hX : zX s.heap.size D tc zq s) (hsc : va_X b L xs s s.heap) (hbl : b < s.heap.size) {i : Nat} (hi : i + 6 ≤ L) (hL : L ≤ 3072) {ad adM : Nat → Nat} {cw mw : zz_W} (hR : zRel cw mw) {H : Heap} {locs : List Loc} (hE : zE D tc s.heap.size ad zshC znnC (zws adM tc zshM znnM mw) cw s.heap H locs) {ls : Array Slot} (hl : lv_has ls 4 [(0, .ref b), (1, .ref (ad 0)), (2, .ref (adM 0)), (3, .int (nI i))]) {cells slots : Nat} (hc : cells + 3 ≤ 600000) (hs : slots + 196 ≤ 7302250) (kk : ∀ (ad2 : Nat → Nat) (cw2 mw2 : zz_W) (H2 : Heap) (locs2 : List Loc), zRel cw2 mw2 → ad2 0 = ad 0 → zE D tc s.heap.size ad2 zshC znnC (zws adM tc zshM znnM mw2) cw2 s.heap H2 locs2 → W p l e room_1 s m #[Value.ref b] below meth c H2 locs2 (cells + 3) (slots + 196) Q (F0 m 1650 ls [])) : W p l e room_1 s m #[Value.ref b] below meth c H locs cells slots Q (F0 m 526 ls []) := by
  have hx := S.1
  have hb := S.2.1
  obtain ⟨r, c1, m1, e1, e2, hR2⟩ := s_seed (xs (i + 1)) cw mw hR
  refine lv_aload_n hx hb dL_law_526 rfl (lv_at hl 1 rfl) ?_
  refine lv_aload_n hx hb dL_law_527 rfl (lv_at hl 0 rfl) ?_
  refine lv_iload_n hx hb dL_law_528 rfl (lv_at hl 3 rfl) ?_
  refine lv_iconst (v := 1) hx hb dL_law_529 (by decide) ?_
  refine lv_iadd hx hb dL_law_530 ?_
  refine zr_sld S hsc hbl hE.2 (k := 1) (zix i 1 (by decide)) (by omega) hL dL_law_531 ?_
  refine zr_i (zr_runV (As := [.int (xs (i + 1))]) S hX hE (kX7_seed l D tc s.heap.size ad (zws adM tc zshM znnM mw) zq (xs (i + 1)) cw r c1 e1) zyX7_seed qm_L_49 zcl_X7 rfl (zc_0 cw) ⟨rfl, rfl⟩ ⟨Nat.le_of_ble_eq_true rfl, Nat.le_of_ble_eq_true rfl⟩ rfl hl.1 rfl (Nat.le_of_ble_eq_true rfl) dL_law_532 ⟨by show cells + 0 ≤ 600000; omega, by show slots + 0 ≤ 7302250; omega⟩) hE (fun H locs hE => ?_)
  have hE := zE_swap hE
  refine lv_aload_n hx hb dL_law_535 rfl (lv_at hl 2 rfl) ?_
  refine lv_aload_n hx hb dL_law_536 rfl (lv_at hl 0 rfl) ?_
  refine lv_iload_n hx hb dL_law_537 rfl (lv_at hl 3 rfl) ?_
  refine lv_iconst (v := 1) hx hb dL_law_538 (by decide) ?_
  refine lv_iadd hx hb dL_law_539 ?_
  refine zr_sld S hsc hbl hE.2 (k := 1) (zix i 1 (by decide)) (by omega) hL dL_law_540 ?_
  refine zr_i (zr_runV (As := [.int (xs (i + 1))]) S hX hE (kX8_seed l D tc s.heap.size adM (zws ad tc zshC znnC c1) zq (xs (i + 1)) mw r m1 e2) zyX8_seed qm_L_52 zcl_X8 rfl (zm_0 mw) ⟨rfl, rfl⟩ ⟨Nat.le_of_ble_eq_true rfl, Nat.le_of_ble_eq_true rfl⟩ rfl hl.1 rfl (Nat.le_of_ble_eq_true rfl) dL_law_541 ⟨by show cells + 0 + 0 ≤ 600000; omega, by show slots + 0 + 0 ≤ 7302250; omega⟩) hE (fun H locs hE => ?_)
  have hE := zE_swap hE
  refine lv_icmp_eq (tgt := 1650) hx hb dL_law_544 (by decide) (fun _ => ?_) (fun c9 => absurd rfl c9)
  refine W.widen (k := cells + 3) (n := slots + 196) (Nat.le_add_right _ _) (Nat.le_add_right _ _) ?_
  exact kk ad c1 m1 _ _ hR2 (rfl) hE
set_option maxHeartbeats 4000000 in
set_option maxRecDepth 100000 in
theorem zl_9 {p : Program} {l : Launch} {e : Env} {s : State} {m : MethodId} {below : List Frame} {meth : Method} {c : Code} {b L : Nat} {xs : Nat → Int32} {D : va_G} {tc : Nat → ClassId} {zq : zz_Q} {q0 : Cond} {Q : State → Prop} (S : CallFix p m c code 4 s #[Value.ref b] (q0 :: zw_tb) RL) (hX : zX s.heap.size D tc zq s) (hsc : va_X b L xs s s.heap) (hbl : b < s.heap.size) {i : Nat} (hi : i + 6 ≤ L) (hL : L ≤ 3072) {ad adM : Nat → Nat} {cw mw : zz_W} (hR : zRel cw mw) {H : Heap} {locs : List Loc} (hE : zE D tc s.heap.size ad zshC znnC (zws adM tc zshM znnM mw) cw s.heap H locs) {ls : Array Slot} (hl : lv_has ls 4 [(0, .ref b), (1, .ref (ad 0)), (2, .ref (adM 0)), (3, .int (nI i))]) {cells slots : Nat} (hc : cells + 3 ≤ 600000) (hs : slots + 196 ≤ 7302250) (kk : ∀ (ad2 : Nat → Nat) (cw2 mw2 : zz_W) (H2 : Heap) (locs2 : List Loc), zRel cw2 mw2 → ad2 0 = ad 0 → zE D tc s.heap.size ad2 zshC znnC (zws adM tc zshM znnM mw2) cw2 s.heap H2 locs2 → W p l e room_1 s m #[Value.ref b] below meth c H2 locs2 (cells + 3) (slots + 196) Q (F0 m 1650 ls [])) : W p l e room_1 s m #[Value.ref b] below meth c H locs cells slots Q (F0 m 549 ls []) := by
  have hx := S.1
  have hb := S.2.1
  obtain ⟨r, c1, m1, e1, e2, hR2⟩ := s_rule (xs (i + 1)) (xs (i + 2)) cw mw hR
  refine lv_aload_n hx hb dL_law_549 rfl (lv_at hl 1 rfl) ?_
  refine lv_aload_n hx hb dL_law_550 rfl (lv_at hl 0 rfl) ?_
  refine lv_iload_n hx hb dL_law_551 rfl (lv_at hl 3 rfl) ?_
  refine lv_iconst (v := 1) hx hb dL_law_552 (by decide) ?_
  refine lv_iadd hx hb dL_law_553 ?_
  refine zr_sld S hsc hbl hE.2 (k := 1) (zix i 1 (by decide)) (by omega) hL dL_law_554 ?_
  refine lv_aload_n hx hb dL_law_555 rfl (lv_at hl 0 rfl) ?_
  refine lv_iload_n hx hb dL_law_556 rfl (lv_at hl 3 rfl) ?_
  refine lv_iconst (v := 2) hx hb dL_law_557 (by decide) ?_
  refine lv_iadd hx hb dL_law_558 ?_
  refine zr_sld S hsc hbl hE.2 (k := 2) (zix i 2 (by decide)) (by omega) hL dL_law_559 ?_
  refine zr_i (zr_runV (As := [.int (xs (i + 1)), .int (xs (i + 2))]) S hX hE (kX7_rule l D tc s.heap.size ad (zws adM tc zshM znnM mw) zq (xs (i + 1)) (xs (i + 2)) cw r c1 e1) zyX7_rule qm_L_53 zcl_X7 rfl (zc_0 cw) ⟨rfl, rfl⟩ ⟨Nat.le_of_ble_eq_true rfl, Nat.le_of_ble_eq_true rfl⟩ rfl hl.1 rfl (Nat.le_of_ble_eq_true rfl) dL_law_560 ⟨by show cells + 0 ≤ 600000; omega, by show slots + 0 ≤ 7302250; omega⟩) hE (fun H locs hE => ?_)
  have hE := zE_swap hE
  refine lv_aload_n hx hb dL_law_563 rfl (lv_at hl 2 rfl) ?_
  refine lv_aload_n hx hb dL_law_564 rfl (lv_at hl 0 rfl) ?_
  refine lv_iload_n hx hb dL_law_565 rfl (lv_at hl 3 rfl) ?_
  refine lv_iconst (v := 1) hx hb dL_law_566 (by decide) ?_
  refine lv_iadd hx hb dL_law_567 ?_
  refine zr_sld S hsc hbl hE.2 (k := 1) (zix i 1 (by decide)) (by omega) hL dL_law_568 ?_
  refine lv_aload_n hx hb dL_law_569 rfl (lv_at hl 0 rfl) ?_
  refine lv_iload_n hx hb dL_law_570 rfl (lv_at hl 3 rfl) ?_
  refine lv_iconst (v := 2) hx hb dL_law_571 (by decide) ?_
  refine lv_iadd hx hb dL_law_572 ?_
  refine zr_sld S hsc hbl hE.2 (k := 2) (zix i 2 (by decide)) (by omega) hL dL_law_573 ?_
  refine zr_i (zr_runV (As := [.int (xs (i + 1)), .int (xs (i + 2))]) S hX hE (kX8_rule l D tc s.heap.size adM (zws ad tc zshC znnC c1) zq (xs (i + 1)) (xs (i + 2)) mw r m1 e2) zyX8_rule qm_L_56 zcl_X8 rfl (zm_0 mw) ⟨rfl, rfl⟩ ⟨Nat.le_of_ble_eq_true rfl, Nat.le_of_ble_eq_true rfl⟩ rfl hl.1 rfl (Nat.le_of_ble_eq_true rfl) dL_law_574 ⟨by show cells + 0 + 0 ≤ 600000; omega, by show slots + 0 + 0 ≤ 7302250; omega⟩) hE (fun H locs hE => ?_)
  have hE := zE_swap hE
  refine lv_icmp_eq (tgt := 1650) hx hb dL_law_577 (by decide) (fun _ => ?_) (fun c9 => absurd rfl c9)
  refine W.widen (k := cells + 3) (n := slots + 196) (Nat.le_add_right _ _) (Nat.le_add_right _ _) ?_
  exact kk ad c1 m1 _ _ hR2 (rfl) hE
set_option maxHeartbeats 4000000 in
set_option maxRecDepth 100000 in
theorem zl_10 {p : Program} {l : Launch} {e : Env} {s : State} {m : MethodId} {below : List Frame} {meth : Method} {c : Code} {b L : Nat} {xs : Nat → Int32} {D : va_G} {tc : Nat → ClassId} {zq : zz_Q} {q0 : Cond} {Q : State → Prop} (S : CallFix p m c code 4 s #[Value.ref b] (q0 :: zw_tb) RL) (hX : zX s.heap.size D tc zq s) (hsc : va_X b L xs s s.heap) (hbl : b < s.heap.size) {i : Nat} (hi : i + 6 ≤ L) (hL : L ≤ 3072) {ad adM : Nat → Nat} {cw mw : zz_W} (hR : zRel cw mw) {H : Heap} {locs : List Loc} (hE : zE D tc s.heap.size ad zshC znnC (zws adM tc zshM znnM mw) cw s.heap H locs) {ls : Array Slot} (hl : lv_has ls 4 [(0, .ref b), (1, .ref (ad 0)), (2, .ref (adM 0)), (3, .int (nI i))]) {cells slots : Nat} (hc : cells + 3 ≤ 600000) (hs : slots + 196 ≤ 7302250) (kk : ∀ (ad2 : Nat → Nat) (cw2 mw2 : zz_W) (H2 : Heap) (locs2 : List Loc), zRel cw2 mw2 → ad2 0 = ad 0 → zE D tc s.heap.size ad2 zshC znnC (zws adM tc zshM znnM mw2) cw2 s.heap H2 locs2 → W p l e room_1 s m #[Value.ref b] below meth c H2 locs2 (cells + 3) (slots + 196) Q (F0 m 1650 ls [])) : W p l e room_1 s m #[Value.ref b] below meth c H locs cells slots Q (F0 m 582 ls []) := by
  have hx := S.1
  have hb := S.2.1
  obtain ⟨r, c1, m1, e1, e2, hR2⟩ := s_build cw mw hR
  refine lv_aload_n hx hb dL_law_582 rfl (lv_at hl 1 rfl) ?_
  refine zr_i (zr_runV (As := []) S hX hE (kX7_build l D tc s.heap.size ad (zws adM tc zshM znnM mw) zq cw r c1 e1) zyX7_build qm_L_57 zcl_X7 rfl (zc_0 cw) ⟨rfl, rfl⟩ ⟨Nat.le_of_ble_eq_true rfl, Nat.le_of_ble_eq_true rfl⟩ rfl hl.1 rfl (Nat.le_of_ble_eq_true rfl) dL_law_583 ⟨by show cells + 0 ≤ 600000; omega, by show slots + 0 ≤ 7302250; omega⟩) hE (fun H locs hE => ?_)
  have hE := zE_swap hE
  refine lv_aload_n hx hb dL_law_586 rfl (lv_at hl 2 rfl) ?_
  refine zr_i (zr_runV (As := []) S hX hE (kX8_build l D tc s.heap.size adM (zws ad tc zshC znnC c1) zq mw r m1 e2) zyX8_build qm_L_61 zcl_X8 rfl (zm_0 mw) ⟨rfl, rfl⟩ ⟨Nat.le_of_ble_eq_true rfl, Nat.le_of_ble_eq_true rfl⟩ rfl hl.1 rfl (Nat.le_of_ble_eq_true rfl) dL_law_587 ⟨by show cells + 0 + 0 ≤ 600000; omega, by show slots + 0 + 0 ≤ 7302250; omega⟩) hE (fun H locs hE => ?_)
  have hE := zE_swap hE
  refine lv_icmp_eq (tgt := 1650) hx hb dL_law_590 (by decide) (fun _ => ?_) (fun c9 => absurd rfl c9)
  refine W.widen (k := cells + 3) (n := slots + 196) (Nat.le_add_right _ _) (Nat.le_add_right _ _) ?_
  exact kk ad c1 m1 _ _ hR2 (rfl) hE
set_option maxHeartbeats 4000000 in
set_option maxRecDepth 100000 in
theorem zl_11 {p : Program} {l : Launch} {e : Env} {s : State} {m : MethodId} {below : List Frame} {meth : Method} {c : Code} {b L : Nat} {xs : Nat → Int32} {D : va_G} {tc : Nat → ClassId} {zq : zz_Q} {q0 : Cond} {Q : State → Prop} (S : CallFix p m c code 4 s #[Value.ref b] (q0 :: zw_tb) RL) (hX : zX s.heap.size D tc zq s) (hsc : va_X b L xs s s.heap) (hbl : b < s.heap.size) {i : Nat} (hi : i + 6 ≤ L) (hL : L ≤ 3072) {ad adM : Nat → Nat} {cw mw : zz_W} (hR : zRel cw mw) {H : Heap} {locs : List Loc} (hE : zE D tc s.heap.size ad zshC znnC (zws adM tc zshM znnM mw) cw s.heap H locs) {ls : Array Slot} (hl : lv_has ls 4 [(0, .ref b), (1, .ref (ad 0)), (2, .ref (adM 0)), (3, .int (nI i))]) {cells slots : Nat} (hc : cells + 3 ≤ 600000) (hs : slots + 196 ≤ 7302250) (kk : ∀ (ad2 : Nat → Nat) (cw2 mw2 : zz_W) (H2 : Heap) (locs2 : List Loc), zRel cw2 mw2 → ad2 0 = ad 0 → zE D tc s.heap.size ad2 zshC znnC (zws adM tc zshM znnM mw2) cw2 s.heap H2 locs2 → W p l e room_1 s m #[Value.ref b] below meth c H2 locs2 (cells + 3) (slots + 196) Q (F0 m 1650 ls [])) : W p l e room_1 s m #[Value.ref b] below meth c H locs cells slots Q (F0 m 595 ls []) := by
  have hx := S.1
  have hb := S.2.1
  obtain ⟨r, c1, m1, e1, e2, hR2⟩ := s_probe (xs (i + 1)) (xs (i + 2)) cw mw hR
  refine lv_aload_n hx hb dL_law_595 rfl (lv_at hl 1 rfl) ?_
  refine lv_aload_n hx hb dL_law_596 rfl (lv_at hl 0 rfl) ?_
  refine lv_iload_n hx hb dL_law_597 rfl (lv_at hl 3 rfl) ?_
  refine lv_iconst (v := 1) hx hb dL_law_598 (by decide) ?_
  refine lv_iadd hx hb dL_law_599 ?_
  refine zr_sld S hsc hbl hE.2 (k := 1) (zix i 1 (by decide)) (by omega) hL dL_law_600 ?_
  refine lv_aload_n hx hb dL_law_601 rfl (lv_at hl 0 rfl) ?_
  refine lv_iload_n hx hb dL_law_602 rfl (lv_at hl 3 rfl) ?_
  refine lv_iconst (v := 2) hx hb dL_law_603 (by decide) ?_
  refine lv_iadd hx hb dL_law_604 ?_
  refine zr_sld S hsc hbl hE.2 (k := 2) (zix i 2 (by decide)) (by omega) hL dL_law_605 ?_
  refine zr_i (zr_runV (As := [.int (xs (i + 1)), .int (xs (i + 2))]) S hX hE (kX7_probe l D tc s.heap.size ad (zws adM tc zshM znnM mw) zq (xs (i + 1)) (xs (i + 2)) cw r c1 e1) zyX7_probe qm_L_62 zcl_X7 rfl (zc_0 cw) ⟨rfl, rfl⟩ ⟨Nat.le_of_ble_eq_true rfl, Nat.le_of_ble_eq_true rfl⟩ rfl hl.1 rfl (Nat.le_of_ble_eq_true rfl) dL_law_606 ⟨by show cells + 0 ≤ 600000; omega, by show slots + 0 ≤ 7302250; omega⟩) hE (fun H locs hE => ?_)
  have hE := zE_swap hE
  refine lv_aload_n hx hb dL_law_609 rfl (lv_at hl 2 rfl) ?_
  refine lv_aload_n hx hb dL_law_610 rfl (lv_at hl 0 rfl) ?_
  refine lv_iload_n hx hb dL_law_611 rfl (lv_at hl 3 rfl) ?_
  refine lv_iconst (v := 1) hx hb dL_law_612 (by decide) ?_
  refine lv_iadd hx hb dL_law_613 ?_
  refine zr_sld S hsc hbl hE.2 (k := 1) (zix i 1 (by decide)) (by omega) hL dL_law_614 ?_
  refine lv_aload_n hx hb dL_law_615 rfl (lv_at hl 0 rfl) ?_
  refine lv_iload_n hx hb dL_law_616 rfl (lv_at hl 3 rfl) ?_
  refine lv_iconst (v := 2) hx hb dL_law_617 (by decide) ?_
  refine lv_iadd hx hb dL_law_618 ?_
  refine zr_sld S hsc hbl hE.2 (k := 2) (zix i 2 (by decide)) (by omega) hL dL_law_619 ?_
  refine zr_i (zr_runV (As := [.int (xs (i + 1)), .int (xs (i + 2))]) S hX hE (kX8_probe l D tc s.heap.size adM (zws ad tc zshC znnC c1) zq (xs (i + 1)) (xs (i + 2)) mw r m1 e2) zyX8_probe qm_L_65 zcl_X8 rfl (zm_0 mw) ⟨rfl, rfl⟩ ⟨Nat.le_of_ble_eq_true rfl, Nat.le_of_ble_eq_true rfl⟩ rfl hl.1 rfl (Nat.le_of_ble_eq_true rfl) dL_law_620 ⟨by show cells + 0 + 0 ≤ 600000; omega, by show slots + 0 + 0 ≤ 7302250; omega⟩) hE (fun H locs hE => ?_)
  have hE := zE_swap hE
  refine lv_icmp_eq (tgt := 1650) hx hb dL_law_623 (by decide) (fun _ => ?_) (fun c9 => absurd rfl c9)
  refine W.widen (k := cells + 3) (n := slots + 196) (Nat.le_add_right _ _) (Nat.le_add_right _ _) ?_
  exact kk ad c1 m1 _ _ hR2 (rfl) hE
set_option maxHeartbeats 4000000 in
set_option maxRecDepth 100000 in
theorem zl_12 {p : Program} {l : Launch} {e : Env} {s : State} {m : MethodId} {below : List Frame} {meth : Method} {c : Code} {b L : Nat} {xs : Nat → Int32} {D : va_G} {tc : Nat → ClassId} {zq : zz_Q} {q0 : Cond} {Q : State → Prop} (S : CallFix p m c code 4 s #[Value.ref b] (q0 :: zw_tb) RL) (hX : zX s.heap.size D tc zq s) (hsc : va_X b L xs s s.heap) (hbl : b < s.heap.size) {i : Nat} (hi : i + 6 ≤ L) (hL : L ≤ 3072) {ad adM : Nat → Nat} {cw mw : zz_W} (hR : zRel cw mw) {H : Heap} {locs : List Loc} (hE : zE D tc s.heap.size ad zshC znnC (zws adM tc zshM znnM mw) cw s.heap H locs) {ls : Array Slot} (hl : lv_has ls 4 [(0, .ref b), (1, .ref (ad 0)), (2, .ref (adM 0)), (3, .int (nI i))]) {cells slots : Nat} (hc : cells + 3 ≤ 600000) (hs : slots + 196 ≤ 7302250) (kk : ∀ (ad2 : Nat → Nat) (cw2 mw2 : zz_W) (H2 : Heap) (locs2 : List Loc), zRel cw2 mw2 → ad2 0 = ad 0 → zE D tc s.heap.size ad2 zshC znnC (zws adM tc zshM znnM mw2) cw2 s.heap H2 locs2 → W p l e room_1 s m #[Value.ref b] below meth c H2 locs2 (cells + 3) (slots + 196) Q (F0 m 1650 ls [])) : W p l e room_1 s m #[Value.ref b] below meth c H locs cells slots Q (F0 m 628 ls []) := by
  have hx := S.1
  have hb := S.2.1
  obtain ⟨r, c1, m1, e1, e2, hR2⟩ := s_drill (xs (i + 1)) (xs (i + 2)) cw mw hR
  refine lv_aload_n hx hb dL_law_628 rfl (lv_at hl 1 rfl) ?_
  refine lv_aload_n hx hb dL_law_629 rfl (lv_at hl 0 rfl) ?_
  refine lv_iload_n hx hb dL_law_630 rfl (lv_at hl 3 rfl) ?_
  refine lv_iconst (v := 1) hx hb dL_law_631 (by decide) ?_
  refine lv_iadd hx hb dL_law_632 ?_
  refine zr_sld S hsc hbl hE.2 (k := 1) (zix i 1 (by decide)) (by omega) hL dL_law_633 ?_
  refine lv_aload_n hx hb dL_law_634 rfl (lv_at hl 0 rfl) ?_
  refine lv_iload_n hx hb dL_law_635 rfl (lv_at hl 3 rfl) ?_
  refine lv_iconst (v := 2) hx hb dL_law_636 (by decide) ?_
  refine lv_iadd hx hb dL_law_637 ?_
  refine zr_sld S hsc hbl hE.2 (k := 2) (zix i 2 (by decide)) (by omega) hL dL_law_638 ?_
  refine zr_i (zr_runV (As := [.int (xs (i + 1)), .int (xs (i + 2))]) S hX hE (kX7_drill l D tc s.heap.size ad (zws adM tc zshM znnM mw) zq (xs (i + 1)) (xs (i + 2)) cw r c1 e1) zyX7_drill qm_L_66 zcl_X7 rfl (zc_0 cw) ⟨rfl, rfl⟩ ⟨Nat.le_of_ble_eq_true rfl, Nat.le_of_ble_eq_true rfl⟩ rfl hl.1 rfl (Nat.le_of_ble_eq_true rfl) dL_law_639 ⟨by show cells + 0 ≤ 600000; omega, by show slots + 0 ≤ 7302250; omega⟩) hE (fun H locs hE => ?_)
  have hE := zE_swap hE
  refine lv_aload_n hx hb dL_law_642 rfl (lv_at hl 2 rfl) ?_
  refine lv_aload_n hx hb dL_law_643 rfl (lv_at hl 0 rfl) ?_
  refine lv_iload_n hx hb dL_law_644 rfl (lv_at hl 3 rfl) ?_
  refine lv_iconst (v := 1) hx hb dL_law_645 (by decide) ?_
  refine lv_iadd hx hb dL_law_646 ?_
  refine zr_sld S hsc hbl hE.2 (k := 1) (zix i 1 (by decide)) (by omega) hL dL_law_647 ?_
  refine lv_aload_n hx hb dL_law_648 rfl (lv_at hl 0 rfl) ?_
  refine lv_iload_n hx hb dL_law_649 rfl (lv_at hl 3 rfl) ?_
  refine lv_iconst (v := 2) hx hb dL_law_650 (by decide) ?_
  refine lv_iadd hx hb dL_law_651 ?_
  refine zr_sld S hsc hbl hE.2 (k := 2) (zix i 2 (by decide)) (by omega) hL dL_law_652 ?_
  refine zr_i (zr_runV (As := [.int (xs (i + 1)), .int (xs (i + 2))]) S hX hE (kX8_drill l D tc s.heap.size adM (zws ad tc zshC znnC c1) zq (xs (i + 1)) (xs (i + 2)) mw r m1 e2) zyX8_drill qm_L_69 zcl_X8 rfl (zm_0 mw) ⟨rfl, rfl⟩ ⟨Nat.le_of_ble_eq_true rfl, Nat.le_of_ble_eq_true rfl⟩ rfl hl.1 rfl (Nat.le_of_ble_eq_true rfl) dL_law_653 ⟨by show cells + 0 + 0 ≤ 600000; omega, by show slots + 0 + 0 ≤ 7302250; omega⟩) hE (fun H locs hE => ?_)
  have hE := zE_swap hE
  refine lv_icmp_eq (tgt := 1650) hx hb dL_law_656 (by decide) (fun _ => ?_) (fun c9 => absurd rfl c9)
  refine W.widen (k := cells + 3) (n := slots + 196) (Nat.le_add_right _ _) (Nat.le_add_right _ _) ?_
  exact kk ad c1 m1 _ _ hR2 (rfl) hE
set_option maxHeartbeats 4000000 in
set_option maxRecDepth 100000 in
theorem zl_13 {p : Program} {l : Launch} {e : Env} {s : State} {m : MethodId} {below : List Frame} {meth : Method} {c : Code} {b L : Nat} {xs : Nat → Int32} {D : va_G} {tc : Nat → ClassId} {zq : zz_Q} {q0 : Cond} {Q : State → Prop} (S : CallFix p m c code 4 s #[Value.ref b] (q0 :: zw_tb) RL) (hX : zX s.heap.size D tc zq s) (hsc : va_X b L xs s s.heap) (hbl : b < s.heap.size) {i : Nat} (hi : i + 6 ≤ L) (hL : L ≤ 3072) {ad adM : Nat → Nat} {cw mw : zz_W} (hR : zRel cw mw) {H : Heap} {locs : List Loc} (hE : zE D tc s.heap.size ad zshC znnC (zws adM tc zshM znnM mw) cw s.heap H locs) {ls : Array Slot} (hl : lv_has ls 4 [(0, .ref b), (1, .ref (ad 0)), (2, .ref (adM 0)), (3, .int (nI i))]) {cells slots : Nat} (hc : cells + 3 ≤ 600000) (hs : slots + 196 ≤ 7302250) (kk : ∀ (ad2 : Nat → Nat) (cw2 mw2 : zz_W) (H2 : Heap) (locs2 : List Loc), zRel cw2 mw2 → ad2 0 = ad 0 → zE D tc s.heap.size ad2 zshC znnC (zws adM tc zshM znnM mw2) cw2 s.heap H2 locs2 → W p l e room_1 s m #[Value.ref b] below meth c H2 locs2 (cells + 3) (slots + 196) Q (F0 m 1650 ls [])) : W p l e room_1 s m #[Value.ref b] below meth c H locs cells slots Q (F0 m 661 ls []) := by
  have hx := S.1
  have hb := S.2.1
  obtain ⟨r, c1, m1, e1, e2, hR2⟩ := s_steps (xs (i + 1)) cw mw hR
  refine lv_aload_n hx hb dL_law_661 rfl (lv_at hl 1 rfl) ?_
  refine lv_aload_n hx hb dL_law_662 rfl (lv_at hl 0 rfl) ?_
  refine lv_iload_n hx hb dL_law_663 rfl (lv_at hl 3 rfl) ?_
  refine lv_iconst (v := 1) hx hb dL_law_664 (by decide) ?_
  refine lv_iadd hx hb dL_law_665 ?_
  refine zr_sld S hsc hbl hE.2 (k := 1) (zix i 1 (by decide)) (by omega) hL dL_law_666 ?_
  refine zr_i (zr_runV (As := [.int (xs (i + 1))]) S hX hE (kX7_steps l D tc s.heap.size ad (zws adM tc zshM znnM mw) zq (xs (i + 1)) cw r c1 e1) zyX7_steps qm_L_70 zcl_X7 rfl (zc_0 cw) ⟨rfl, rfl⟩ ⟨Nat.le_of_ble_eq_true rfl, Nat.le_of_ble_eq_true rfl⟩ rfl hl.1 rfl (Nat.le_of_ble_eq_true rfl) dL_law_667 ⟨by show cells + 0 ≤ 600000; omega, by show slots + 0 ≤ 7302250; omega⟩) hE (fun H locs hE => ?_)
  have hE := zE_swap hE
  refine lv_aload_n hx hb dL_law_670 rfl (lv_at hl 2 rfl) ?_
  refine lv_aload_n hx hb dL_law_671 rfl (lv_at hl 0 rfl) ?_
  refine lv_iload_n hx hb dL_law_672 rfl (lv_at hl 3 rfl) ?_
  refine lv_iconst (v := 1) hx hb dL_law_673 (by decide) ?_
  refine lv_iadd hx hb dL_law_674 ?_
  refine zr_sld S hsc hbl hE.2 (k := 1) (zix i 1 (by decide)) (by omega) hL dL_law_675 ?_
  refine zr_i (zr_runV (As := [.int (xs (i + 1))]) S hX hE (kX8_steps l D tc s.heap.size adM (zws ad tc zshC znnC c1) zq (xs (i + 1)) mw r m1 e2) zyX8_steps qm_L_73 zcl_X8 rfl (zm_0 mw) ⟨rfl, rfl⟩ ⟨Nat.le_of_ble_eq_true rfl, Nat.le_of_ble_eq_true rfl⟩ rfl hl.1 rfl (Nat.le_of_ble_eq_true rfl) dL_law_676 ⟨by show cells + 0 + 0 ≤ 600000; omega, by show slots + 0 + 0 ≤ 7302250; omega⟩) hE (fun H locs hE => ?_)
  have hE := zE_swap hE
  refine lv_icmp_eq (tgt := 1650) hx hb dL_law_679 (by decide) (fun _ => ?_) (fun c9 => absurd rfl c9)
  refine W.widen (k := cells + 3) (n := slots + 196) (Nat.le_add_right _ _) (Nat.le_add_right _ _) ?_
  exact kk ad c1 m1 _ _ hR2 (rfl) hE
set_option maxHeartbeats 4000000 in
set_option maxRecDepth 100000 in
theorem zl_14 {p : Program} {l : Launch} {e : Env} {s : State} {m : MethodId} {below : List Frame} {meth : Method} {c : Code} {b L : Nat} {xs : Nat → Int32} {D : va_G} {tc : Nat → ClassId} {zq : zz_Q} {q0 : Cond} {Q : State → Prop} (S : CallFix p m c code 4 s #[Value.ref b] (q0 :: zw_tb) RL) (hX : zX s.heap.size D tc zq s) (hsc : va_X b L xs s s.heap) (hbl : b < s.heap.size) {i : Nat} (hi : i + 6 ≤ L) (hL : L ≤ 3072) {ad adM : Nat → Nat} {cw mw : zz_W} (hR : zRel cw mw) {H : Heap} {locs : List Loc} (hE : zE D tc s.heap.size ad zshC znnC (zws adM tc zshM znnM mw) cw s.heap H locs) {ls : Array Slot} (hl : lv_has ls 4 [(0, .ref b), (1, .ref (ad 0)), (2, .ref (adM 0)), (3, .int (nI i))]) {cells slots : Nat} (hc : cells + 3 ≤ 600000) (hs : slots + 196 ≤ 7302250) (kk : ∀ (ad2 : Nat → Nat) (cw2 mw2 : zz_W) (H2 : Heap) (locs2 : List Loc), zRel cw2 mw2 → ad2 0 = ad 0 → zE D tc s.heap.size ad2 zshC znnC (zws adM tc zshM znnM mw2) cw2 s.heap H2 locs2 → W p l e room_1 s m #[Value.ref b] below meth c H2 locs2 (cells + 3) (slots + 196) Q (F0 m 1650 ls [])) : W p l e room_1 s m #[Value.ref b] below meth c H locs cells slots Q (F0 m 684 ls []) := by
  have hx := S.1
  have hb := S.2.1
  obtain ⟨r, c1, m1, e1, e2, hR2⟩ := s_house (xs (i + 1)) cw mw hR
  refine lv_aload_n hx hb dL_law_684 rfl (lv_at hl 1 rfl) ?_
  refine lv_aload_n hx hb dL_law_685 rfl (lv_at hl 0 rfl) ?_
  refine lv_iload_n hx hb dL_law_686 rfl (lv_at hl 3 rfl) ?_
  refine lv_iconst (v := 1) hx hb dL_law_687 (by decide) ?_
  refine lv_iadd hx hb dL_law_688 ?_
  refine zr_sld S hsc hbl hE.2 (k := 1) (zix i 1 (by decide)) (by omega) hL dL_law_689 ?_
  refine zr_i (zr_runV (As := [.int (xs (i + 1))]) S hX hE (kX7_house l D tc s.heap.size ad (zws adM tc zshM znnM mw) zq (xs (i + 1)) cw r c1 e1) zyX7_house qm_L_74 zcl_X7 rfl (zc_0 cw) ⟨rfl, rfl⟩ ⟨Nat.le_of_ble_eq_true rfl, Nat.le_of_ble_eq_true rfl⟩ rfl hl.1 rfl (Nat.le_of_ble_eq_true rfl) dL_law_690 ⟨by show cells + 0 ≤ 600000; omega, by show slots + 0 ≤ 7302250; omega⟩) hE (fun H locs hE => ?_)
  have hE := zE_swap hE
  refine lv_aload_n hx hb dL_law_693 rfl (lv_at hl 2 rfl) ?_
  refine lv_aload_n hx hb dL_law_694 rfl (lv_at hl 0 rfl) ?_
  refine lv_iload_n hx hb dL_law_695 rfl (lv_at hl 3 rfl) ?_
  refine lv_iconst (v := 1) hx hb dL_law_696 (by decide) ?_
  refine lv_iadd hx hb dL_law_697 ?_
  refine zr_sld S hsc hbl hE.2 (k := 1) (zix i 1 (by decide)) (by omega) hL dL_law_698 ?_
  refine zr_i (zr_runV (As := [.int (xs (i + 1))]) S hX hE (kX8_house l D tc s.heap.size adM (zws ad tc zshC znnC c1) zq (xs (i + 1)) mw r m1 e2) zyX8_house qm_L_77 zcl_X8 rfl (zm_0 mw) ⟨rfl, rfl⟩ ⟨Nat.le_of_ble_eq_true rfl, Nat.le_of_ble_eq_true rfl⟩ rfl hl.1 rfl (Nat.le_of_ble_eq_true rfl) dL_law_699 ⟨by show cells + 0 + 0 ≤ 600000; omega, by show slots + 0 + 0 ≤ 7302250; omega⟩) hE (fun H locs hE => ?_)
  have hE := zE_swap hE
  refine lv_icmp_eq (tgt := 1650) hx hb dL_law_702 (by decide) (fun _ => ?_) (fun c9 => absurd rfl c9)
  refine W.widen (k := cells + 3) (n := slots + 196) (Nat.le_add_right _ _) (Nat.le_add_right _ _) ?_
  exact kk ad c1 m1 _ _ hR2 (rfl) hE
set_option maxHeartbeats 4000000 in
set_option maxRecDepth 100000 in
theorem zl_15 {p : Program} {l : Launch} {e : Env} {s : State} {m : MethodId} {below : List Frame} {meth : Method} {c : Code} {b L : Nat} {xs : Nat → Int32} {D : va_G} {tc : Nat → ClassId} {zq : zz_Q} {q0 : Cond} {Q : State → Prop} (S : CallFix p m c code 4 s #[Value.ref b] (q0 :: zw_tb) RL) (hX : zX s.heap.size D tc zq s) (hsc : va_X b L xs s s.heap) (hbl : b < s.heap.size) {i : Nat} (hi : i + 6 ≤ L) (hL : L ≤ 3072) {ad adM : Nat → Nat} {cw mw : zz_W} (hR : zRel cw mw) {H : Heap} {locs : List Loc} (hE : zE D tc s.heap.size ad zshC znnC (zws adM tc zshM znnM mw) cw s.heap H locs) {ls : Array Slot} (hl : lv_has ls 4 [(0, .ref b), (1, .ref (ad 0)), (2, .ref (adM 0)), (3, .int (nI i))]) {cells slots : Nat} (hc : cells + 3 ≤ 600000) (hs : slots + 196 ≤ 7302250) (kk : ∀ (ad2 : Nat → Nat) (cw2 mw2 : zz_W) (H2 : Heap) (locs2 : List Loc), zRel cw2 mw2 → ad2 0 = ad 0 → zE D tc s.heap.size ad2 zshC znnC (zws adM tc zshM znnM mw2) cw2 s.heap H2 locs2 → W p l e room_1 s m #[Value.ref b] below meth c H2 locs2 (cells + 3) (slots + 196) Q (F0 m 1650 ls [])) : W p l e room_1 s m #[Value.ref b] below meth c H locs cells slots Q (F0 m 707 ls []) := by
  have hx := S.1
  have hb := S.2.1
  obtain ⟨r, c1, m1, e1, e2, hR2⟩ := s_chance (xs (i + 1)) cw mw hR
  refine lv_aload_n hx hb dL_law_707 rfl (lv_at hl 1 rfl) ?_
  refine lv_aload_n hx hb dL_law_708 rfl (lv_at hl 0 rfl) ?_
  refine lv_iload_n hx hb dL_law_709 rfl (lv_at hl 3 rfl) ?_
  refine lv_iconst (v := 1) hx hb dL_law_710 (by decide) ?_
  refine lv_iadd hx hb dL_law_711 ?_
  refine zr_sld S hsc hbl hE.2 (k := 1) (zix i 1 (by decide)) (by omega) hL dL_law_712 ?_
  refine zr_i (zr_runV (As := [.int (xs (i + 1))]) S hX hE (kX7_chance l D tc s.heap.size ad (zws adM tc zshM znnM mw) zq (xs (i + 1)) cw r c1 e1) zyX7_chance qm_L_78 zcl_X7 rfl (zc_0 cw) ⟨rfl, rfl⟩ ⟨Nat.le_of_ble_eq_true rfl, Nat.le_of_ble_eq_true rfl⟩ rfl hl.1 rfl (Nat.le_of_ble_eq_true rfl) dL_law_713 ⟨by show cells + 0 ≤ 600000; omega, by show slots + 0 ≤ 7302250; omega⟩) hE (fun H locs hE => ?_)
  have hE := zE_swap hE
  refine lv_aload_n hx hb dL_law_716 rfl (lv_at hl 2 rfl) ?_
  refine lv_aload_n hx hb dL_law_717 rfl (lv_at hl 0 rfl) ?_
  refine lv_iload_n hx hb dL_law_718 rfl (lv_at hl 3 rfl) ?_
  refine lv_iconst (v := 1) hx hb dL_law_719 (by decide) ?_
  refine lv_iadd hx hb dL_law_720 ?_
  refine zr_sld S hsc hbl hE.2 (k := 1) (zix i 1 (by decide)) (by omega) hL dL_law_721 ?_
  refine zr_i (zr_runV (As := [.int (xs (i + 1))]) S hX hE (kX8_chance l D tc s.heap.size adM (zws ad tc zshC znnC c1) zq (xs (i + 1)) mw r m1 e2) zyX8_chance qm_L_81 zcl_X8 rfl (zm_0 mw) ⟨rfl, rfl⟩ ⟨Nat.le_of_ble_eq_true rfl, Nat.le_of_ble_eq_true rfl⟩ rfl hl.1 rfl (Nat.le_of_ble_eq_true rfl) dL_law_722 ⟨by show cells + 0 + 0 ≤ 600000; omega, by show slots + 0 + 0 ≤ 7302250; omega⟩) hE (fun H locs hE => ?_)
  have hE := zE_swap hE
  refine lv_icmp_eq (tgt := 1650) hx hb dL_law_725 (by decide) (fun _ => ?_) (fun c9 => absurd rfl c9)
  refine W.widen (k := cells + 3) (n := slots + 196) (Nat.le_add_right _ _) (Nat.le_add_right _ _) ?_
  exact kk ad c1 m1 _ _ hR2 (rfl) hE
set_option maxHeartbeats 4000000 in
set_option maxRecDepth 100000 in
theorem zl_16 {p : Program} {l : Launch} {e : Env} {s : State} {m : MethodId} {below : List Frame} {meth : Method} {c : Code} {b L : Nat} {xs : Nat → Int32} {D : va_G} {tc : Nat → ClassId} {zq : zz_Q} {q0 : Cond} {Q : State → Prop} (S : CallFix p m c code 4 s #[Value.ref b] (q0 :: zw_tb) RL) (hX : zX s.heap.size D tc zq s) (hsc : va_X b L xs s s.heap) (hbl : b < s.heap.size) {i : Nat} (hi : i + 6 ≤ L) (hL : L ≤ 3072) {ad adM : Nat → Nat} {cw mw : zz_W} (hR : zRel cw mw) {H : Heap} {locs : List Loc} (hE : zE D tc s.heap.size ad zshC znnC (zws adM tc zshM znnM mw) cw s.heap H locs) {ls : Array Slot} (hl : lv_has ls 4 [(0, .ref b), (1, .ref (ad 0)), (2, .ref (adM 0)), (3, .int (nI i))]) {cells slots : Nat} (hc : cells + 3 ≤ 600000) (hs : slots + 196 ≤ 7302250) (kk : ∀ (ad2 : Nat → Nat) (cw2 mw2 : zz_W) (H2 : Heap) (locs2 : List Loc), zRel cw2 mw2 → ad2 0 = ad 0 → zE D tc s.heap.size ad2 zshC znnC (zws adM tc zshM znnM mw2) cw2 s.heap H2 locs2 → W p l e room_1 s m #[Value.ref b] below meth c H2 locs2 (cells + 3) (slots + 196) Q (F0 m 1650 ls [])) : W p l e room_1 s m #[Value.ref b] below meth c H locs cells slots Q (F0 m 730 ls []) := by
  have hx := S.1
  have hb := S.2.1
  obtain ⟨r, c1, m1, e1, e2, hR2⟩ := s_risk (xs (i + 1)) (xs (i + 2)) cw mw hR
  refine lv_aload_n hx hb dL_law_730 rfl (lv_at hl 1 rfl) ?_
  refine lv_aload_n hx hb dL_law_731 rfl (lv_at hl 0 rfl) ?_
  refine lv_iload_n hx hb dL_law_732 rfl (lv_at hl 3 rfl) ?_
  refine lv_iconst (v := 1) hx hb dL_law_733 (by decide) ?_
  refine lv_iadd hx hb dL_law_734 ?_
  refine zr_sld S hsc hbl hE.2 (k := 1) (zix i 1 (by decide)) (by omega) hL dL_law_735 ?_
  refine lv_aload_n hx hb dL_law_736 rfl (lv_at hl 0 rfl) ?_
  refine lv_iload_n hx hb dL_law_737 rfl (lv_at hl 3 rfl) ?_
  refine lv_iconst (v := 2) hx hb dL_law_738 (by decide) ?_
  refine lv_iadd hx hb dL_law_739 ?_
  refine zr_sld S hsc hbl hE.2 (k := 2) (zix i 2 (by decide)) (by omega) hL dL_law_740 ?_
  refine zr_i (zr_runV (As := [.int (xs (i + 1)), .int (xs (i + 2))]) S hX hE (kX7_risk l D tc s.heap.size ad (zws adM tc zshM znnM mw) zq (xs (i + 1)) (xs (i + 2)) cw r c1 e1) zyX7_risk qm_L_82 zcl_X7 rfl (zc_0 cw) ⟨rfl, rfl⟩ ⟨Nat.le_of_ble_eq_true rfl, Nat.le_of_ble_eq_true rfl⟩ rfl hl.1 rfl (Nat.le_of_ble_eq_true rfl) dL_law_741 ⟨by show cells + 0 ≤ 600000; omega, by show slots + 0 ≤ 7302250; omega⟩) hE (fun H locs hE => ?_)
  have hE := zE_swap hE
  refine lv_aload_n hx hb dL_law_744 rfl (lv_at hl 2 rfl) ?_
  refine lv_aload_n hx hb dL_law_745 rfl (lv_at hl 0 rfl) ?_
  refine lv_iload_n hx hb dL_law_746 rfl (lv_at hl 3 rfl) ?_
  refine lv_iconst (v := 1) hx hb dL_law_747 (by decide) ?_
  refine lv_iadd hx hb dL_law_748 ?_
  refine zr_sld S hsc hbl hE.2 (k := 1) (zix i 1 (by decide)) (by omega) hL dL_law_749 ?_
  refine lv_aload_n hx hb dL_law_750 rfl (lv_at hl 0 rfl) ?_
  refine lv_iload_n hx hb dL_law_751 rfl (lv_at hl 3 rfl) ?_
  refine lv_iconst (v := 2) hx hb dL_law_752 (by decide) ?_
  refine lv_iadd hx hb dL_law_753 ?_
  refine zr_sld S hsc hbl hE.2 (k := 2) (zix i 2 (by decide)) (by omega) hL dL_law_754 ?_
  refine zr_i (zr_runV (As := [.int (xs (i + 1)), .int (xs (i + 2))]) S hX hE (kX8_risk l D tc s.heap.size adM (zws ad tc zshC znnC c1) zq (xs (i + 1)) (xs (i + 2)) mw r m1 e2) zyX8_risk qm_L_85 zcl_X8 rfl (zm_0 mw) ⟨rfl, rfl⟩ ⟨Nat.le_of_ble_eq_true rfl, Nat.le_of_ble_eq_true rfl⟩ rfl hl.1 rfl (Nat.le_of_ble_eq_true rfl) dL_law_755 ⟨by show cells + 0 + 0 ≤ 600000; omega, by show slots + 0 + 0 ≤ 7302250; omega⟩) hE (fun H locs hE => ?_)
  have hE := zE_swap hE
  refine lv_icmp_eq (tgt := 1650) hx hb dL_law_758 (by decide) (fun _ => ?_) (fun c9 => absurd rfl c9)
  refine W.widen (k := cells + 3) (n := slots + 196) (Nat.le_add_right _ _) (Nat.le_add_right _ _) ?_
  exact kk ad c1 m1 _ _ hR2 (rfl) hE
set_option maxHeartbeats 4000000 in
set_option maxRecDepth 100000 in
theorem zl_17 {p : Program} {l : Launch} {e : Env} {s : State} {m : MethodId} {below : List Frame} {meth : Method} {c : Code} {b L : Nat} {xs : Nat → Int32} {D : va_G} {tc : Nat → ClassId} {zq : zz_Q} {q0 : Cond} {Q : State → Prop} (S : CallFix p m c code 4 s #[Value.ref b] (q0 :: zw_tb) RL) (hX : zX s.heap.size D tc zq s) (hsc : va_X b L xs s s.heap) (hbl : b < s.heap.size) {i : Nat} (hi : i + 6 ≤ L) (hL : L ≤ 3072) {ad adM : Nat → Nat} {cw mw : zz_W} (hR : zRel cw mw) {H : Heap} {locs : List Loc} (hE : zE D tc s.heap.size ad zshC znnC (zws adM tc zshM znnM mw) cw s.heap H locs) {ls : Array Slot} (hl : lv_has ls 4 [(0, .ref b), (1, .ref (ad 0)), (2, .ref (adM 0)), (3, .int (nI i))]) {cells slots : Nat} (hc : cells + 3 ≤ 600000) (hs : slots + 196 ≤ 7302250) (kk : ∀ (ad2 : Nat → Nat) (cw2 mw2 : zz_W) (H2 : Heap) (locs2 : List Loc), zRel cw2 mw2 → ad2 0 = ad 0 → zE D tc s.heap.size ad2 zshC znnC (zws adM tc zshM znnM mw2) cw2 s.heap H2 locs2 → W p l e room_1 s m #[Value.ref b] below meth c H2 locs2 (cells + 3) (slots + 196) Q (F0 m 1650 ls [])) : W p l e room_1 s m #[Value.ref b] below meth c H locs cells slots Q (F0 m 763 ls []) := by
  have hx := S.1
  have hb := S.2.1
  obtain ⟨r, c1, m1, e1, e2, hR2⟩ := s_where (xs (i + 1)) (xs (i + 2)) (xs (i + 3)) cw mw hR
  refine lv_aload_n hx hb dL_law_763 rfl (lv_at hl 1 rfl) ?_
  refine lv_aload_n hx hb dL_law_764 rfl (lv_at hl 0 rfl) ?_
  refine lv_iload_n hx hb dL_law_765 rfl (lv_at hl 3 rfl) ?_
  refine lv_iconst (v := 1) hx hb dL_law_766 (by decide) ?_
  refine lv_iadd hx hb dL_law_767 ?_
  refine zr_sld S hsc hbl hE.2 (k := 1) (zix i 1 (by decide)) (by omega) hL dL_law_768 ?_
  refine lv_aload_n hx hb dL_law_769 rfl (lv_at hl 0 rfl) ?_
  refine lv_iload_n hx hb dL_law_770 rfl (lv_at hl 3 rfl) ?_
  refine lv_iconst (v := 2) hx hb dL_law_771 (by decide) ?_
  refine lv_iadd hx hb dL_law_772 ?_
  refine zr_sld S hsc hbl hE.2 (k := 2) (zix i 2 (by decide)) (by omega) hL dL_law_773 ?_
  refine lv_aload_n hx hb dL_law_774 rfl (lv_at hl 0 rfl) ?_
  refine lv_iload_n hx hb dL_law_775 rfl (lv_at hl 3 rfl) ?_
  refine lv_iconst (v := 3) hx hb dL_law_776 (by decide) ?_
  refine lv_iadd hx hb dL_law_777 ?_
  refine zr_sld S hsc hbl hE.2 (k := 3) (zix i 3 (by decide)) (by omega) hL dL_law_778 ?_
  refine zr_i (zr_runV (As := [.int (xs (i + 1)), .int (xs (i + 2)), .int (xs (i + 3))]) S hX hE (kX7_where l D tc s.heap.size ad (zws adM tc zshM znnM mw) zq (xs (i + 1)) (xs (i + 2)) (xs (i + 3)) cw r c1 e1) zyX7_where qm_L_86 zcl_X7 rfl (zc_0 cw) ⟨rfl, rfl⟩ ⟨Nat.le_of_ble_eq_true rfl, Nat.le_of_ble_eq_true rfl⟩ rfl hl.1 rfl (Nat.le_of_ble_eq_true rfl) dL_law_779 ⟨by show cells + 0 ≤ 600000; omega, by show slots + 0 ≤ 7302250; omega⟩) hE (fun H locs hE => ?_)
  have hE := zE_swap hE
  refine lv_aload_n hx hb dL_law_782 rfl (lv_at hl 2 rfl) ?_
  refine lv_aload_n hx hb dL_law_783 rfl (lv_at hl 0 rfl) ?_
  refine lv_iload_n hx hb dL_law_784 rfl (lv_at hl 3 rfl) ?_
  refine lv_iconst (v := 1) hx hb dL_law_785 (by decide) ?_
  refine lv_iadd hx hb dL_law_786 ?_
  refine zr_sld S hsc hbl hE.2 (k := 1) (zix i 1 (by decide)) (by omega) hL dL_law_787 ?_
  refine lv_aload_n hx hb dL_law_788 rfl (lv_at hl 0 rfl) ?_
  refine lv_iload_n hx hb dL_law_789 rfl (lv_at hl 3 rfl) ?_
  refine lv_iconst (v := 2) hx hb dL_law_790 (by decide) ?_
  refine lv_iadd hx hb dL_law_791 ?_
  refine zr_sld S hsc hbl hE.2 (k := 2) (zix i 2 (by decide)) (by omega) hL dL_law_792 ?_
  refine lv_aload_n hx hb dL_law_793 rfl (lv_at hl 0 rfl) ?_
  refine lv_iload_n hx hb dL_law_794 rfl (lv_at hl 3 rfl) ?_
  refine lv_iconst (v := 3) hx hb dL_law_795 (by decide) ?_
  refine lv_iadd hx hb dL_law_796 ?_
  refine zr_sld S hsc hbl hE.2 (k := 3) (zix i 3 (by decide)) (by omega) hL dL_law_797 ?_
  refine zr_i (zr_runV (As := [.int (xs (i + 1)), .int (xs (i + 2)), .int (xs (i + 3))]) S hX hE (kX8_where l D tc s.heap.size adM (zws ad tc zshC znnC c1) zq (xs (i + 1)) (xs (i + 2)) (xs (i + 3)) mw r m1 e2) zyX8_where qm_L_89 zcl_X8 rfl (zm_0 mw) ⟨rfl, rfl⟩ ⟨Nat.le_of_ble_eq_true rfl, Nat.le_of_ble_eq_true rfl⟩ rfl hl.1 rfl (Nat.le_of_ble_eq_true rfl) dL_law_798 ⟨by show cells + 0 + 0 ≤ 600000; omega, by show slots + 0 + 0 ≤ 7302250; omega⟩) hE (fun H locs hE => ?_)
  have hE := zE_swap hE
  refine lv_icmp_eq (tgt := 1650) hx hb dL_law_801 (by decide) (fun _ => ?_) (fun c9 => absurd rfl c9)
  refine W.widen (k := cells + 3) (n := slots + 196) (Nat.le_add_right _ _) (Nat.le_add_right _ _) ?_
  exact kk ad c1 m1 _ _ hR2 (rfl) hE
set_option maxHeartbeats 4000000 in
set_option maxRecDepth 100000 in
theorem zl_18 {p : Program} {l : Launch} {e : Env} {s : State} {m : MethodId} {below : List Frame} {meth : Method} {c : Code} {b L : Nat} {xs : Nat → Int32} {D : va_G} {tc : Nat → ClassId} {zq : zz_Q} {q0 : Cond} {Q : State → Prop} (S : CallFix p m c code 4 s #[Value.ref b] (q0 :: zw_tb) RL) (hX : zX s.heap.size D tc zq s) (hsc : va_X b L xs s s.heap) (hbl : b < s.heap.size) {i : Nat} (hi : i + 6 ≤ L) (hL : L ≤ 3072) {ad adM : Nat → Nat} {cw mw : zz_W} (hR : zRel cw mw) {H : Heap} {locs : List Loc} (hE : zE D tc s.heap.size ad zshC znnC (zws adM tc zshM znnM mw) cw s.heap H locs) {ls : Array Slot} (hl : lv_has ls 4 [(0, .ref b), (1, .ref (ad 0)), (2, .ref (adM 0)), (3, .int (nI i))]) {cells slots : Nat} (hc : cells + 3 ≤ 600000) (hs : slots + 196 ≤ 7302250) (kk : ∀ (ad2 : Nat → Nat) (cw2 mw2 : zz_W) (H2 : Heap) (locs2 : List Loc), zRel cw2 mw2 → ad2 0 = ad 0 → zE D tc s.heap.size ad2 zshC znnC (zws adM tc zshM znnM mw2) cw2 s.heap H2 locs2 → W p l e room_1 s m #[Value.ref b] below meth c H2 locs2 (cells + 3) (slots + 196) Q (F0 m 1650 ls [])) : W p l e room_1 s m #[Value.ref b] below meth c H locs cells slots Q (F0 m 806 ls []) := by
  have hx := S.1
  have hb := S.2.1
  obtain ⟨r, c1, m1, e1, e2, hR2⟩ := s_safe (xs (i + 1)) (xs (i + 2)) cw mw hR
  refine lv_aload_n hx hb dL_law_806 rfl (lv_at hl 1 rfl) ?_
  refine lv_aload_n hx hb dL_law_807 rfl (lv_at hl 0 rfl) ?_
  refine lv_iload_n hx hb dL_law_808 rfl (lv_at hl 3 rfl) ?_
  refine lv_iconst (v := 1) hx hb dL_law_809 (by decide) ?_
  refine lv_iadd hx hb dL_law_810 ?_
  refine zr_sld S hsc hbl hE.2 (k := 1) (zix i 1 (by decide)) (by omega) hL dL_law_811 ?_
  refine lv_aload_n hx hb dL_law_812 rfl (lv_at hl 0 rfl) ?_
  refine lv_iload_n hx hb dL_law_813 rfl (lv_at hl 3 rfl) ?_
  refine lv_iconst (v := 2) hx hb dL_law_814 (by decide) ?_
  refine lv_iadd hx hb dL_law_815 ?_
  refine zr_sld S hsc hbl hE.2 (k := 2) (zix i 2 (by decide)) (by omega) hL dL_law_816 ?_
  refine zr_i (zr_runV (As := [.int (xs (i + 1)), .int (xs (i + 2))]) S hX hE (kX7_safe l D tc s.heap.size ad (zws adM tc zshM znnM mw) zq (xs (i + 1)) (xs (i + 2)) cw r c1 e1) zyX7_safe qm_L_90 zcl_X7 rfl (zc_0 cw) ⟨rfl, rfl⟩ ⟨Nat.le_of_ble_eq_true rfl, Nat.le_of_ble_eq_true rfl⟩ rfl hl.1 rfl (Nat.le_of_ble_eq_true rfl) dL_law_817 ⟨by show cells + 0 ≤ 600000; omega, by show slots + 0 ≤ 7302250; omega⟩) hE (fun H locs hE => ?_)
  have hE := zE_swap hE
  refine lv_aload_n hx hb dL_law_820 rfl (lv_at hl 2 rfl) ?_
  refine lv_aload_n hx hb dL_law_821 rfl (lv_at hl 0 rfl) ?_
  refine lv_iload_n hx hb dL_law_822 rfl (lv_at hl 3 rfl) ?_
  refine lv_iconst (v := 1) hx hb dL_law_823 (by decide) ?_
  refine lv_iadd hx hb dL_law_824 ?_
  refine zr_sld S hsc hbl hE.2 (k := 1) (zix i 1 (by decide)) (by omega) hL dL_law_825 ?_
  refine lv_aload_n hx hb dL_law_826 rfl (lv_at hl 0 rfl) ?_
  refine lv_iload_n hx hb dL_law_827 rfl (lv_at hl 3 rfl) ?_
  refine lv_iconst (v := 2) hx hb dL_law_828 (by decide) ?_
  refine lv_iadd hx hb dL_law_829 ?_
  refine zr_sld S hsc hbl hE.2 (k := 2) (zix i 2 (by decide)) (by omega) hL dL_law_830 ?_
  refine zr_i (zr_runV (As := [.int (xs (i + 1)), .int (xs (i + 2))]) S hX hE (kX8_safe l D tc s.heap.size adM (zws ad tc zshC znnC c1) zq (xs (i + 1)) (xs (i + 2)) mw r m1 e2) zyX8_safe qm_L_93 zcl_X8 rfl (zm_0 mw) ⟨rfl, rfl⟩ ⟨Nat.le_of_ble_eq_true rfl, Nat.le_of_ble_eq_true rfl⟩ rfl hl.1 rfl (Nat.le_of_ble_eq_true rfl) dL_law_831 ⟨by show cells + 0 + 0 ≤ 600000; omega, by show slots + 0 + 0 ≤ 7302250; omega⟩) hE (fun H locs hE => ?_)
  have hE := zE_swap hE
  refine lv_icmp_eq (tgt := 1650) hx hb dL_law_834 (by decide) (fun _ => ?_) (fun c9 => absurd rfl c9)
  refine W.widen (k := cells + 3) (n := slots + 196) (Nat.le_add_right _ _) (Nat.le_add_right _ _) ?_
  exact kk ad c1 m1 _ _ hR2 (rfl) hE
set_option maxHeartbeats 4000000 in
set_option maxRecDepth 100000 in
theorem zl_19 {p : Program} {l : Launch} {e : Env} {s : State} {m : MethodId} {below : List Frame} {meth : Method} {c : Code} {b L : Nat} {xs : Nat → Int32} {D : va_G} {tc : Nat → ClassId} {zq : zz_Q} {q0 : Cond} {Q : State → Prop} (S : CallFix p m c code 4 s #[Value.ref b] (q0 :: zw_tb) RL) (hX : zX s.heap.size D tc zq s) (hsc : va_X b L xs s s.heap) (hbl : b < s.heap.size) {i : Nat} (hi : i + 6 ≤ L) (hL : L ≤ 3072) {ad adM : Nat → Nat} {cw mw : zz_W} (hR : zRel cw mw) {H : Heap} {locs : List Loc} (hE : zE D tc s.heap.size ad zshC znnC (zws adM tc zshM znnM mw) cw s.heap H locs) {ls : Array Slot} (hl : lv_has ls 4 [(0, .ref b), (1, .ref (ad 0)), (2, .ref (adM 0)), (3, .int (nI i))]) {cells slots : Nat} (hc : cells + 3 ≤ 600000) (hs : slots + 196 ≤ 7302250) (kk : ∀ (ad2 : Nat → Nat) (cw2 mw2 : zz_W) (H2 : Heap) (locs2 : List Loc), zRel cw2 mw2 → ad2 0 = ad 0 → zE D tc s.heap.size ad2 zshC znnC (zws adM tc zshM znnM mw2) cw2 s.heap H2 locs2 → W p l e room_1 s m #[Value.ref b] below meth c H2 locs2 (cells + 3) (slots + 196) Q (F0 m 1650 ls [])) : W p l e room_1 s m #[Value.ref b] below meth c H locs cells slots Q (F0 m 839 ls []) := by
  have hx := S.1
  have hb := S.2.1
  obtain ⟨r, c1, m1, e1, e2, hR2⟩ := s_learn (xs (i + 1)) (xs (i + 2)) (xs (i + 3)) (xs (i + 4)) cw mw hR
  refine lv_aload_n hx hb dL_law_839 rfl (lv_at hl 1 rfl) ?_
  refine lv_aload_n hx hb dL_law_840 rfl (lv_at hl 0 rfl) ?_
  refine lv_iload_n hx hb dL_law_841 rfl (lv_at hl 3 rfl) ?_
  refine lv_iconst (v := 1) hx hb dL_law_842 (by decide) ?_
  refine lv_iadd hx hb dL_law_843 ?_
  refine zr_sld S hsc hbl hE.2 (k := 1) (zix i 1 (by decide)) (by omega) hL dL_law_844 ?_
  refine lv_aload_n hx hb dL_law_845 rfl (lv_at hl 0 rfl) ?_
  refine lv_iload_n hx hb dL_law_846 rfl (lv_at hl 3 rfl) ?_
  refine lv_iconst (v := 2) hx hb dL_law_847 (by decide) ?_
  refine lv_iadd hx hb dL_law_848 ?_
  refine zr_sld S hsc hbl hE.2 (k := 2) (zix i 2 (by decide)) (by omega) hL dL_law_849 ?_
  refine lv_aload_n hx hb dL_law_850 rfl (lv_at hl 0 rfl) ?_
  refine lv_iload_n hx hb dL_law_851 rfl (lv_at hl 3 rfl) ?_
  refine lv_iconst (v := 3) hx hb dL_law_852 (by decide) ?_
  refine lv_iadd hx hb dL_law_853 ?_
  refine zr_sld S hsc hbl hE.2 (k := 3) (zix i 3 (by decide)) (by omega) hL dL_law_854 ?_
  refine lv_aload_n hx hb dL_law_855 rfl (lv_at hl 0 rfl) ?_
  refine lv_iload_n hx hb dL_law_856 rfl (lv_at hl 3 rfl) ?_
  refine lv_iconst (v := 4) hx hb dL_law_857 (by decide) ?_
  refine lv_iadd hx hb dL_law_858 ?_
  refine zr_sld S hsc hbl hE.2 (k := 4) (zix i 4 (by decide)) (by omega) hL dL_law_859 ?_
  refine zr_i (zr_runV (As := [.int (xs (i + 1)), .int (xs (i + 2)), .int (xs (i + 3)), .int (xs (i + 4))]) S hX hE (kX7_learn l D tc s.heap.size ad (zws adM tc zshM znnM mw) zq (xs (i + 1)) (xs (i + 2)) (xs (i + 3)) (xs (i + 4)) cw r c1 e1) zyX7_learn qm_L_94 zcl_X7 rfl (zc_0 cw) ⟨rfl, rfl⟩ ⟨Nat.le_of_ble_eq_true rfl, Nat.le_of_ble_eq_true rfl⟩ rfl hl.1 rfl (Nat.le_of_ble_eq_true rfl) dL_law_860 ⟨by show cells + 0 ≤ 600000; omega, by show slots + 0 ≤ 7302250; omega⟩) hE (fun H locs hE => ?_)
  have hE := zE_swap hE
  refine lv_aload_n hx hb dL_law_863 rfl (lv_at hl 2 rfl) ?_
  refine lv_aload_n hx hb dL_law_864 rfl (lv_at hl 0 rfl) ?_
  refine lv_iload_n hx hb dL_law_865 rfl (lv_at hl 3 rfl) ?_
  refine lv_iconst (v := 1) hx hb dL_law_866 (by decide) ?_
  refine lv_iadd hx hb dL_law_867 ?_
  refine zr_sld S hsc hbl hE.2 (k := 1) (zix i 1 (by decide)) (by omega) hL dL_law_868 ?_
  refine lv_aload_n hx hb dL_law_869 rfl (lv_at hl 0 rfl) ?_
  refine lv_iload_n hx hb dL_law_870 rfl (lv_at hl 3 rfl) ?_
  refine lv_iconst (v := 2) hx hb dL_law_871 (by decide) ?_
  refine lv_iadd hx hb dL_law_872 ?_
  refine zr_sld S hsc hbl hE.2 (k := 2) (zix i 2 (by decide)) (by omega) hL dL_law_873 ?_
  refine lv_aload_n hx hb dL_law_874 rfl (lv_at hl 0 rfl) ?_
  refine lv_iload_n hx hb dL_law_875 rfl (lv_at hl 3 rfl) ?_
  refine lv_iconst (v := 3) hx hb dL_law_876 (by decide) ?_
  refine lv_iadd hx hb dL_law_877 ?_
  refine zr_sld S hsc hbl hE.2 (k := 3) (zix i 3 (by decide)) (by omega) hL dL_law_878 ?_
  refine lv_aload_n hx hb dL_law_879 rfl (lv_at hl 0 rfl) ?_
  refine lv_iload_n hx hb dL_law_880 rfl (lv_at hl 3 rfl) ?_
  refine lv_iconst (v := 4) hx hb dL_law_881 (by decide) ?_
  refine lv_iadd hx hb dL_law_882 ?_
  refine zr_sld S hsc hbl hE.2 (k := 4) (zix i 4 (by decide)) (by omega) hL dL_law_883 ?_
  refine zr_i (zr_runV (As := [.int (xs (i + 1)), .int (xs (i + 2)), .int (xs (i + 3)), .int (xs (i + 4))]) S hX hE (kX8_learn l D tc s.heap.size adM (zws ad tc zshC znnC c1) zq (xs (i + 1)) (xs (i + 2)) (xs (i + 3)) (xs (i + 4)) mw r m1 e2) zyX8_learn qm_L_97 zcl_X8 rfl (zm_0 mw) ⟨rfl, rfl⟩ ⟨Nat.le_of_ble_eq_true rfl, Nat.le_of_ble_eq_true rfl⟩ rfl hl.1 rfl (Nat.le_of_ble_eq_true rfl) dL_law_884 ⟨by show cells + 0 + 0 ≤ 600000; omega, by show slots + 0 + 0 ≤ 7302250; omega⟩) hE (fun H locs hE => ?_)
  have hE := zE_swap hE
  refine lv_icmp_eq (tgt := 1650) hx hb dL_law_887 (by decide) (fun _ => ?_) (fun c9 => absurd rfl c9)
  refine W.widen (k := cells + 3) (n := slots + 196) (Nat.le_add_right _ _) (Nat.le_add_right _ _) ?_
  exact kk ad c1 m1 _ _ hR2 (rfl) hE
set_option maxHeartbeats 4000000 in
set_option maxRecDepth 100000 in
theorem zl_20 {p : Program} {l : Launch} {e : Env} {s : State} {m : MethodId} {below : List Frame} {meth : Method} {c : Code} {b L : Nat} {xs : Nat → Int32} {D : va_G} {tc : Nat → ClassId} {zq : zz_Q} {q0 : Cond} {Q : State → Prop} (S : CallFix p m c code 4 s #[Value.ref b] (q0 :: zw_tb) RL) (hX : zX s.heap.size D tc zq s) (hsc : va_X b L xs s s.heap) (hbl : b < s.heap.size) {i : Nat} (hi : i + 6 ≤ L) (hL : L ≤ 3072) {ad adM : Nat → Nat} {cw mw : zz_W} (hR : zRel cw mw) {H : Heap} {locs : List Loc} (hE : zE D tc s.heap.size ad zshC znnC (zws adM tc zshM znnM mw) cw s.heap H locs) {ls : Array Slot} (hl : lv_has ls 4 [(0, .ref b), (1, .ref (ad 0)), (2, .ref (adM 0)), (3, .int (nI i))]) {cells slots : Nat} (hc : cells + 3 ≤ 600000) (hs : slots + 196 ≤ 7302250) (kk : ∀ (ad2 : Nat → Nat) (cw2 mw2 : zz_W) (H2 : Heap) (locs2 : List Loc), zRel cw2 mw2 → ad2 0 = ad 0 → zE D tc s.heap.size ad2 zshC znnC (zws adM tc zshM znnM mw2) cw2 s.heap H2 locs2 → W p l e room_1 s m #[Value.ref b] below meth c H2 locs2 (cells + 3) (slots + 196) Q (F0 m 1650 ls [])) : W p l e room_1 s m #[Value.ref b] below meth c H locs cells slots Q (F0 m 892 ls []) := by
  have hx := S.1
  have hb := S.2.1
  obtain ⟨r, c1, m1, e1, e2, hR2⟩ := s_worthiest (xs (i + 1)) (xs (i + 2)) (xs (i + 3)) cw mw hR
  refine lv_aload_n hx hb dL_law_892 rfl (lv_at hl 1 rfl) ?_
  refine lv_aload_n hx hb dL_law_893 rfl (lv_at hl 0 rfl) ?_
  refine lv_iload_n hx hb dL_law_894 rfl (lv_at hl 3 rfl) ?_
  refine lv_iconst (v := 1) hx hb dL_law_895 (by decide) ?_
  refine lv_iadd hx hb dL_law_896 ?_
  refine zr_sld S hsc hbl hE.2 (k := 1) (zix i 1 (by decide)) (by omega) hL dL_law_897 ?_
  refine lv_aload_n hx hb dL_law_898 rfl (lv_at hl 0 rfl) ?_
  refine lv_iload_n hx hb dL_law_899 rfl (lv_at hl 3 rfl) ?_
  refine lv_iconst (v := 2) hx hb dL_law_900 (by decide) ?_
  refine lv_iadd hx hb dL_law_901 ?_
  refine zr_sld S hsc hbl hE.2 (k := 2) (zix i 2 (by decide)) (by omega) hL dL_law_902 ?_
  refine lv_aload_n hx hb dL_law_903 rfl (lv_at hl 0 rfl) ?_
  refine lv_iload_n hx hb dL_law_904 rfl (lv_at hl 3 rfl) ?_
  refine lv_iconst (v := 3) hx hb dL_law_905 (by decide) ?_
  refine lv_iadd hx hb dL_law_906 ?_
  refine zr_sld S hsc hbl hE.2 (k := 3) (zix i 3 (by decide)) (by omega) hL dL_law_907 ?_
  refine zr_i (zr_runV (As := [.int (xs (i + 1)), .int (xs (i + 2)), .int (xs (i + 3))]) S hX hE (kX7_worthiest l D tc s.heap.size ad (zws adM tc zshM znnM mw) zq (xs (i + 1)) (xs (i + 2)) (xs (i + 3)) cw r c1 e1) zyX7_worthiest qm_L_98 zcl_X7 rfl (zc_0 cw) ⟨rfl, rfl⟩ ⟨Nat.le_of_ble_eq_true rfl, Nat.le_of_ble_eq_true rfl⟩ rfl hl.1 rfl (Nat.le_of_ble_eq_true rfl) dL_law_908 ⟨by show cells + 0 ≤ 600000; omega, by show slots + 0 ≤ 7302250; omega⟩) hE (fun H locs hE => ?_)
  have hE := zE_swap hE
  refine lv_aload_n hx hb dL_law_911 rfl (lv_at hl 2 rfl) ?_
  refine lv_aload_n hx hb dL_law_912 rfl (lv_at hl 0 rfl) ?_
  refine lv_iload_n hx hb dL_law_913 rfl (lv_at hl 3 rfl) ?_
  refine lv_iconst (v := 1) hx hb dL_law_914 (by decide) ?_
  refine lv_iadd hx hb dL_law_915 ?_
  refine zr_sld S hsc hbl hE.2 (k := 1) (zix i 1 (by decide)) (by omega) hL dL_law_916 ?_
  refine lv_aload_n hx hb dL_law_917 rfl (lv_at hl 0 rfl) ?_
  refine lv_iload_n hx hb dL_law_918 rfl (lv_at hl 3 rfl) ?_
  refine lv_iconst (v := 2) hx hb dL_law_919 (by decide) ?_
  refine lv_iadd hx hb dL_law_920 ?_
  refine zr_sld S hsc hbl hE.2 (k := 2) (zix i 2 (by decide)) (by omega) hL dL_law_921 ?_
  refine lv_aload_n hx hb dL_law_922 rfl (lv_at hl 0 rfl) ?_
  refine lv_iload_n hx hb dL_law_923 rfl (lv_at hl 3 rfl) ?_
  refine lv_iconst (v := 3) hx hb dL_law_924 (by decide) ?_
  refine lv_iadd hx hb dL_law_925 ?_
  refine zr_sld S hsc hbl hE.2 (k := 3) (zix i 3 (by decide)) (by omega) hL dL_law_926 ?_
  refine zr_i (zr_runV (As := [.int (xs (i + 1)), .int (xs (i + 2)), .int (xs (i + 3))]) S hX hE (kX8_worthiest l D tc s.heap.size adM (zws ad tc zshC znnC c1) zq (xs (i + 1)) (xs (i + 2)) (xs (i + 3)) mw r m1 e2) zyX8_worthiest qm_L_101 zcl_X8 rfl (zm_0 mw) ⟨rfl, rfl⟩ ⟨Nat.le_of_ble_eq_true rfl, Nat.le_of_ble_eq_true rfl⟩ rfl hl.1 rfl (Nat.le_of_ble_eq_true rfl) dL_law_927 ⟨by show cells + 0 + 0 ≤ 600000; omega, by show slots + 0 + 0 ≤ 7302250; omega⟩) hE (fun H locs hE => ?_)
  have hE := zE_swap hE
  refine lv_icmp_eq (tgt := 1650) hx hb dL_law_930 (by decide) (fun _ => ?_) (fun c9 => absurd rfl c9)
  refine W.widen (k := cells + 3) (n := slots + 196) (Nat.le_add_right _ _) (Nat.le_add_right _ _) ?_
  exact kk ad c1 m1 _ _ hR2 (rfl) hE
set_option maxHeartbeats 4000000 in
set_option maxRecDepth 100000 in
theorem zl_21 {p : Program} {l : Launch} {e : Env} {s : State} {m : MethodId} {below : List Frame} {meth : Method} {c : Code} {b L : Nat} {xs : Nat → Int32} {D : va_G} {tc : Nat → ClassId} {zq : zz_Q} {q0 : Cond} {Q : State → Prop} (S : CallFix p m c code 4 s #[Value.ref b] (q0 :: zw_tb) RL) (hX : zX s.heap.size D tc zq s) (hsc : va_X b L xs s s.heap) (hbl : b < s.heap.size) {i : Nat} (hi : i + 6 ≤ L) (hL : L ≤ 3072) {ad adM : Nat → Nat} {cw mw : zz_W} (hR : zRel cw mw) {H : Heap} {locs : List Loc} (hE : zE D tc s.heap.size ad zshC znnC (zws adM tc zshM znnM mw) cw s.heap H locs) {ls : Array Slot} (hl : lv_has ls 4 [(0, .ref b), (1, .ref (ad 0)), (2, .ref (adM 0)), (3, .int (nI i))]) {cells slots : Nat} (hc : cells + 3 ≤ 600000) (hs : slots + 196 ≤ 7302250) (kk : ∀ (ad2 : Nat → Nat) (cw2 mw2 : zz_W) (H2 : Heap) (locs2 : List Loc), zRel cw2 mw2 → ad2 0 = ad 0 → zE D tc s.heap.size ad2 zshC znnC (zws adM tc zshM znnM mw2) cw2 s.heap H2 locs2 → W p l e room_1 s m #[Value.ref b] below meth c H2 locs2 (cells + 3) (slots + 196) Q (F0 m 1650 ls [])) : W p l e room_1 s m #[Value.ref b] below meth c H locs cells slots Q (F0 m 935 ls []) := by
  have hx := S.1
  have hb := S.2.1
  obtain ⟨r, c1, m1, e1, e2, hR2⟩ := s_fits (xs (i + 1)) (xs (i + 2)) cw mw hR
  refine lv_aload_n hx hb dL_law_935 rfl (lv_at hl 1 rfl) ?_
  refine lv_aload_n hx hb dL_law_936 rfl (lv_at hl 0 rfl) ?_
  refine lv_iload_n hx hb dL_law_937 rfl (lv_at hl 3 rfl) ?_
  refine lv_iconst (v := 1) hx hb dL_law_938 (by decide) ?_
  refine lv_iadd hx hb dL_law_939 ?_
  refine zr_sld S hsc hbl hE.2 (k := 1) (zix i 1 (by decide)) (by omega) hL dL_law_940 ?_
  refine lv_aload_n hx hb dL_law_941 rfl (lv_at hl 0 rfl) ?_
  refine lv_iload_n hx hb dL_law_942 rfl (lv_at hl 3 rfl) ?_
  refine lv_iconst (v := 2) hx hb dL_law_943 (by decide) ?_
  refine lv_iadd hx hb dL_law_944 ?_
  refine zr_sld S hsc hbl hE.2 (k := 2) (zix i 2 (by decide)) (by omega) hL dL_law_945 ?_
  refine zr_i (zr_runV (As := [.int (xs (i + 1)), .int (xs (i + 2))]) S hX hE (kX7_fits l D tc s.heap.size ad (zws adM tc zshM znnM mw) zq (xs (i + 1)) (xs (i + 2)) cw r c1 e1) zyX7_fits qm_L_102 zcl_X7 rfl (zc_0 cw) ⟨rfl, rfl⟩ ⟨Nat.le_of_ble_eq_true rfl, Nat.le_of_ble_eq_true rfl⟩ rfl hl.1 rfl (Nat.le_of_ble_eq_true rfl) dL_law_946 ⟨by show cells + 0 ≤ 600000; omega, by show slots + 0 ≤ 7302250; omega⟩) hE (fun H locs hE => ?_)
  have hE := zE_swap hE
  refine lv_aload_n hx hb dL_law_949 rfl (lv_at hl 2 rfl) ?_
  refine lv_aload_n hx hb dL_law_950 rfl (lv_at hl 0 rfl) ?_
  refine lv_iload_n hx hb dL_law_951 rfl (lv_at hl 3 rfl) ?_
  refine lv_iconst (v := 1) hx hb dL_law_952 (by decide) ?_
  refine lv_iadd hx hb dL_law_953 ?_
  refine zr_sld S hsc hbl hE.2 (k := 1) (zix i 1 (by decide)) (by omega) hL dL_law_954 ?_
  refine lv_aload_n hx hb dL_law_955 rfl (lv_at hl 0 rfl) ?_
  refine lv_iload_n hx hb dL_law_956 rfl (lv_at hl 3 rfl) ?_
  refine lv_iconst (v := 2) hx hb dL_law_957 (by decide) ?_
  refine lv_iadd hx hb dL_law_958 ?_
  refine zr_sld S hsc hbl hE.2 (k := 2) (zix i 2 (by decide)) (by omega) hL dL_law_959 ?_
  refine zr_i (zr_runV (As := [.int (xs (i + 1)), .int (xs (i + 2))]) S hX hE (kX8_fits l D tc s.heap.size adM (zws ad tc zshC znnC c1) zq (xs (i + 1)) (xs (i + 2)) mw r m1 e2) zyX8_fits qm_L_105 zcl_X8 rfl (zm_0 mw) ⟨rfl, rfl⟩ ⟨Nat.le_of_ble_eq_true rfl, Nat.le_of_ble_eq_true rfl⟩ rfl hl.1 rfl (Nat.le_of_ble_eq_true rfl) dL_law_960 ⟨by show cells + 0 + 0 ≤ 600000; omega, by show slots + 0 + 0 ≤ 7302250; omega⟩) hE (fun H locs hE => ?_)
  have hE := zE_swap hE
  refine lv_icmp_eq (tgt := 1650) hx hb dL_law_963 (by decide) (fun _ => ?_) (fun c9 => absurd rfl c9)
  refine W.widen (k := cells + 3) (n := slots + 196) (Nat.le_add_right _ _) (Nat.le_add_right _ _) ?_
  exact kk ad c1 m1 _ _ hR2 (rfl) hE
set_option maxHeartbeats 4000000 in
set_option maxRecDepth 100000 in
theorem zl_22 {p : Program} {l : Launch} {e : Env} {s : State} {m : MethodId} {below : List Frame} {meth : Method} {c : Code} {b L : Nat} {xs : Nat → Int32} {D : va_G} {tc : Nat → ClassId} {zq : zz_Q} {q0 : Cond} {Q : State → Prop} (S : CallFix p m c code 4 s #[Value.ref b] (q0 :: zw_tb) RL) (hX : zX s.heap.size D tc zq s) (hsc : va_X b L xs s s.heap) (hbl : b < s.heap.size) {i : Nat} (hi : i + 6 ≤ L) (hL : L ≤ 3072) {ad adM : Nat → Nat} {cw mw : zz_W} (hR : zRel cw mw) {H : Heap} {locs : List Loc} (hE : zE D tc s.heap.size ad zshC znnC (zws adM tc zshM znnM mw) cw s.heap H locs) {ls : Array Slot} (hl : lv_has ls 4 [(0, .ref b), (1, .ref (ad 0)), (2, .ref (adM 0)), (3, .int (nI i))]) {cells slots : Nat} (hc : cells + 3 ≤ 600000) (hs : slots + 196 ≤ 7302250) (kk : ∀ (ad2 : Nat → Nat) (cw2 mw2 : zz_W) (H2 : Heap) (locs2 : List Loc), zRel cw2 mw2 → ad2 0 = ad 0 → zE D tc s.heap.size ad2 zshC znnC (zws adM tc zshM znnM mw2) cw2 s.heap H2 locs2 → W p l e room_1 s m #[Value.ref b] below meth c H2 locs2 (cells + 3) (slots + 196) Q (F0 m 1650 ls [])) : W p l e room_1 s m #[Value.ref b] below meth c H locs cells slots Q (F0 m 968 ls []) := by
  have hx := S.1
  have hb := S.2.1
  obtain ⟨r, c1, m1, e1, e2, hR2⟩ := s_behind (xs (i + 1)) (xs (i + 2)) cw mw hR
  refine lv_aload_n hx hb dL_law_968 rfl (lv_at hl 1 rfl) ?_
  refine lv_aload_n hx hb dL_law_969 rfl (lv_at hl 0 rfl) ?_
  refine lv_iload_n hx hb dL_law_970 rfl (lv_at hl 3 rfl) ?_
  refine lv_iconst (v := 1) hx hb dL_law_971 (by decide) ?_
  refine lv_iadd hx hb dL_law_972 ?_
  refine zr_sld S hsc hbl hE.2 (k := 1) (zix i 1 (by decide)) (by omega) hL dL_law_973 ?_
  refine lv_aload_n hx hb dL_law_974 rfl (lv_at hl 0 rfl) ?_
  refine lv_iload_n hx hb dL_law_975 rfl (lv_at hl 3 rfl) ?_
  refine lv_iconst (v := 2) hx hb dL_law_976 (by decide) ?_
  refine lv_iadd hx hb dL_law_977 ?_
  refine zr_sld S hsc hbl hE.2 (k := 2) (zix i 2 (by decide)) (by omega) hL dL_law_978 ?_
  refine zr_i (zr_runV (As := [.int (xs (i + 1)), .int (xs (i + 2))]) S hX hE (kX7_behind l D tc s.heap.size ad (zws adM tc zshM znnM mw) zq (xs (i + 1)) (xs (i + 2)) cw r c1 e1) zyX7_behind qm_L_106 zcl_X7 rfl (zc_0 cw) ⟨rfl, rfl⟩ ⟨Nat.le_of_ble_eq_true rfl, Nat.le_of_ble_eq_true rfl⟩ rfl hl.1 rfl (Nat.le_of_ble_eq_true rfl) dL_law_979 ⟨by show cells + 0 ≤ 600000; omega, by show slots + 0 ≤ 7302250; omega⟩) hE (fun H locs hE => ?_)
  have hE := zE_swap hE
  refine lv_aload_n hx hb dL_law_982 rfl (lv_at hl 2 rfl) ?_
  refine lv_aload_n hx hb dL_law_983 rfl (lv_at hl 0 rfl) ?_
  refine lv_iload_n hx hb dL_law_984 rfl (lv_at hl 3 rfl) ?_
  refine lv_iconst (v := 1) hx hb dL_law_985 (by decide) ?_
  refine lv_iadd hx hb dL_law_986 ?_
  refine zr_sld S hsc hbl hE.2 (k := 1) (zix i 1 (by decide)) (by omega) hL dL_law_987 ?_
  refine lv_aload_n hx hb dL_law_988 rfl (lv_at hl 0 rfl) ?_
  refine lv_iload_n hx hb dL_law_989 rfl (lv_at hl 3 rfl) ?_
  refine lv_iconst (v := 2) hx hb dL_law_990 (by decide) ?_
  refine lv_iadd hx hb dL_law_991 ?_
  refine zr_sld S hsc hbl hE.2 (k := 2) (zix i 2 (by decide)) (by omega) hL dL_law_992 ?_
  refine zr_i (zr_runV (As := [.int (xs (i + 1)), .int (xs (i + 2))]) S hX hE (kX8_behind l D tc s.heap.size adM (zws ad tc zshC znnC c1) zq (xs (i + 1)) (xs (i + 2)) mw r m1 e2) zyX8_behind qm_L_109 zcl_X8 rfl (zm_0 mw) ⟨rfl, rfl⟩ ⟨Nat.le_of_ble_eq_true rfl, Nat.le_of_ble_eq_true rfl⟩ rfl hl.1 rfl (Nat.le_of_ble_eq_true rfl) dL_law_993 ⟨by show cells + 0 + 0 ≤ 600000; omega, by show slots + 0 + 0 ≤ 7302250; omega⟩) hE (fun H locs hE => ?_)
  have hE := zE_swap hE
  refine lv_icmp_eq (tgt := 1650) hx hb dL_law_996 (by decide) (fun _ => ?_) (fun c9 => absurd rfl c9)
  refine W.widen (k := cells + 3) (n := slots + 196) (Nat.le_add_right _ _) (Nat.le_add_right _ _) ?_
  exact kk ad c1 m1 _ _ hR2 (rfl) hE
set_option maxHeartbeats 4000000 in
set_option maxRecDepth 100000 in
theorem zl_23 {p : Program} {l : Launch} {e : Env} {s : State} {m : MethodId} {below : List Frame} {meth : Method} {c : Code} {b L : Nat} {xs : Nat → Int32} {D : va_G} {tc : Nat → ClassId} {zq : zz_Q} {q0 : Cond} {Q : State → Prop} (S : CallFix p m c code 4 s #[Value.ref b] (q0 :: zw_tb) RL) (hX : zX s.heap.size D tc zq s) (hsc : va_X b L xs s s.heap) (hbl : b < s.heap.size) {i : Nat} (hi : i + 6 ≤ L) (hL : L ≤ 3072) {ad adM : Nat → Nat} {cw mw : zz_W} (hR : zRel cw mw) {H : Heap} {locs : List Loc} (hE : zE D tc s.heap.size ad zshC znnC (zws adM tc zshM znnM mw) cw s.heap H locs) {ls : Array Slot} (hl : lv_has ls 4 [(0, .ref b), (1, .ref (ad 0)), (2, .ref (adM 0)), (3, .int (nI i))]) {cells slots : Nat} (hc : cells + 3 ≤ 600000) (hs : slots + 196 ≤ 7302250) (kk : ∀ (ad2 : Nat → Nat) (cw2 mw2 : zz_W) (H2 : Heap) (locs2 : List Loc), zRel cw2 mw2 → ad2 0 = ad 0 → zE D tc s.heap.size ad2 zshC znnC (zws adM tc zshM znnM mw2) cw2 s.heap H2 locs2 → W p l e room_1 s m #[Value.ref b] below meth c H2 locs2 (cells + 3) (slots + 196) Q (F0 m 1650 ls [])) : W p l e room_1 s m #[Value.ref b] below meth c H locs cells slots Q (F0 m 1001 ls []) := by
  have hx := S.1
  have hb := S.2.1
  obtain ⟨r, c1, m1, e1, e2, hR2⟩ := s_when cw mw hR
  refine lv_aload_n hx hb dL_law_1001 rfl (lv_at hl 1 rfl) ?_
  refine zr_i (zr_runV (As := []) S hX hE (kX7_when l D tc s.heap.size ad (zws adM tc zshM znnM mw) zq cw r c1 e1) zyX7_when qm_L_110 zcl_X7 rfl (zc_0 cw) ⟨rfl, rfl⟩ ⟨Nat.le_of_ble_eq_true rfl, Nat.le_of_ble_eq_true rfl⟩ rfl hl.1 rfl (Nat.le_of_ble_eq_true rfl) dL_law_1002 ⟨by show cells + 0 ≤ 600000; omega, by show slots + 0 ≤ 7302250; omega⟩) hE (fun H locs hE => ?_)
  have hE := zE_swap hE
  refine lv_aload_n hx hb dL_law_1005 rfl (lv_at hl 2 rfl) ?_
  refine zr_i (zr_runV (As := []) S hX hE (kX8_when l D tc s.heap.size adM (zws ad tc zshC znnC c1) zq mw r m1 e2) zyX8_when qm_L_113 zcl_X8 rfl (zm_0 mw) ⟨rfl, rfl⟩ ⟨Nat.le_of_ble_eq_true rfl, Nat.le_of_ble_eq_true rfl⟩ rfl hl.1 rfl (Nat.le_of_ble_eq_true rfl) dL_law_1006 ⟨by show cells + 0 + 0 ≤ 600000; omega, by show slots + 0 + 0 ≤ 7302250; omega⟩) hE (fun H locs hE => ?_)
  have hE := zE_swap hE
  refine lv_icmp_eq (tgt := 1650) hx hb dL_law_1009 (by decide) (fun _ => ?_) (fun c9 => absurd rfl c9)
  refine W.widen (k := cells + 3) (n := slots + 196) (Nat.le_add_right _ _) (Nat.le_add_right _ _) ?_
  exact kk ad c1 m1 _ _ hR2 (rfl) hE
set_option maxHeartbeats 4000000 in
set_option maxRecDepth 100000 in
theorem zl_24 {p : Program} {l : Launch} {e : Env} {s : State} {m : MethodId} {below : List Frame} {meth : Method} {c : Code} {b L : Nat} {xs : Nat → Int32} {D : va_G} {tc : Nat → ClassId} {zq : zz_Q} {q0 : Cond} {Q : State → Prop} (S : CallFix p m c code 4 s #[Value.ref b] (q0 :: zw_tb) RL) (hX : zX s.heap.size D tc zq s) (hsc : va_X b L xs s s.heap) (hbl : b < s.heap.size) {i : Nat} (hi : i + 6 ≤ L) (hL : L ≤ 3072) {ad adM : Nat → Nat} {cw mw : zz_W} (hR : zRel cw mw) {H : Heap} {locs : List Loc} (hE : zE D tc s.heap.size ad zshC znnC (zws adM tc zshM znnM mw) cw s.heap H locs) {ls : Array Slot} (hl : lv_has ls 4 [(0, .ref b), (1, .ref (ad 0)), (2, .ref (adM 0)), (3, .int (nI i))]) {cells slots : Nat} (hc : cells + 3 ≤ 600000) (hs : slots + 196 ≤ 7302250) (kk : ∀ (ad2 : Nat → Nat) (cw2 mw2 : zz_W) (H2 : Heap) (locs2 : List Loc), zRel cw2 mw2 → ad2 0 = ad 0 → zE D tc s.heap.size ad2 zshC znnC (zws adM tc zshM znnM mw2) cw2 s.heap H2 locs2 → W p l e room_1 s m #[Value.ref b] below meth c H2 locs2 (cells + 3) (slots + 196) Q (F0 m 1650 ls [])) : W p l e room_1 s m #[Value.ref b] below meth c H locs cells slots Q (F0 m 1014 ls []) := by
  have hx := S.1
  have hb := S.2.1
  obtain ⟨r, c1, m1, e1, e2, hR2⟩ := s_slipped (xs (i + 1)) (xs (i + 2)) cw mw hR
  refine lv_aload_n hx hb dL_law_1014 rfl (lv_at hl 1 rfl) ?_
  refine lv_aload_n hx hb dL_law_1015 rfl (lv_at hl 0 rfl) ?_
  refine lv_iload_n hx hb dL_law_1016 rfl (lv_at hl 3 rfl) ?_
  refine lv_iconst (v := 1) hx hb dL_law_1017 (by decide) ?_
  refine lv_iadd hx hb dL_law_1018 ?_
  refine zr_sld S hsc hbl hE.2 (k := 1) (zix i 1 (by decide)) (by omega) hL dL_law_1019 ?_
  refine lv_aload_n hx hb dL_law_1020 rfl (lv_at hl 0 rfl) ?_
  refine lv_iload_n hx hb dL_law_1021 rfl (lv_at hl 3 rfl) ?_
  refine lv_iconst (v := 2) hx hb dL_law_1022 (by decide) ?_
  refine lv_iadd hx hb dL_law_1023 ?_
  refine zr_sld S hsc hbl hE.2 (k := 2) (zix i 2 (by decide)) (by omega) hL dL_law_1024 ?_
  refine zr_i (zr_runV (As := [.int (xs (i + 1)), .int (xs (i + 2))]) S hX hE (kX7_slipped l D tc s.heap.size ad (zws adM tc zshM znnM mw) zq (xs (i + 1)) (xs (i + 2)) cw r c1 e1) zyX7_slipped qm_L_114 zcl_X7 rfl (zc_0 cw) ⟨rfl, rfl⟩ ⟨Nat.le_of_ble_eq_true rfl, Nat.le_of_ble_eq_true rfl⟩ rfl hl.1 rfl (Nat.le_of_ble_eq_true rfl) dL_law_1025 ⟨by show cells + 0 ≤ 600000; omega, by show slots + 0 ≤ 7302250; omega⟩) hE (fun H locs hE => ?_)
  have hE := zE_swap hE
  refine lv_aload_n hx hb dL_law_1028 rfl (lv_at hl 2 rfl) ?_
  refine lv_aload_n hx hb dL_law_1029 rfl (lv_at hl 0 rfl) ?_
  refine lv_iload_n hx hb dL_law_1030 rfl (lv_at hl 3 rfl) ?_
  refine lv_iconst (v := 1) hx hb dL_law_1031 (by decide) ?_
  refine lv_iadd hx hb dL_law_1032 ?_
  refine zr_sld S hsc hbl hE.2 (k := 1) (zix i 1 (by decide)) (by omega) hL dL_law_1033 ?_
  refine lv_aload_n hx hb dL_law_1034 rfl (lv_at hl 0 rfl) ?_
  refine lv_iload_n hx hb dL_law_1035 rfl (lv_at hl 3 rfl) ?_
  refine lv_iconst (v := 2) hx hb dL_law_1036 (by decide) ?_
  refine lv_iadd hx hb dL_law_1037 ?_
  refine zr_sld S hsc hbl hE.2 (k := 2) (zix i 2 (by decide)) (by omega) hL dL_law_1038 ?_
  refine zr_i (zr_runV (As := [.int (xs (i + 1)), .int (xs (i + 2))]) S hX hE (kX8_slipped l D tc s.heap.size adM (zws ad tc zshC znnC c1) zq (xs (i + 1)) (xs (i + 2)) mw r m1 e2) zyX8_slipped qm_L_117 zcl_X8 rfl (zm_0 mw) ⟨rfl, rfl⟩ ⟨Nat.le_of_ble_eq_true rfl, Nat.le_of_ble_eq_true rfl⟩ rfl hl.1 rfl (Nat.le_of_ble_eq_true rfl) dL_law_1039 ⟨by show cells + 0 + 0 ≤ 600000; omega, by show slots + 0 + 0 ≤ 7302250; omega⟩) hE (fun H locs hE => ?_)
  have hE := zE_swap hE
  refine lv_icmp_eq (tgt := 1650) hx hb dL_law_1042 (by decide) (fun _ => ?_) (fun c9 => absurd rfl c9)
  refine W.widen (k := cells + 3) (n := slots + 196) (Nat.le_add_right _ _) (Nat.le_add_right _ _) ?_
  exact kk ad c1 m1 _ _ hR2 (rfl) hE
set_option maxHeartbeats 4000000 in
set_option maxRecDepth 100000 in
theorem zl_25 {p : Program} {l : Launch} {e : Env} {s : State} {m : MethodId} {below : List Frame} {meth : Method} {c : Code} {b L : Nat} {xs : Nat → Int32} {D : va_G} {tc : Nat → ClassId} {zq : zz_Q} {q0 : Cond} {Q : State → Prop} (S : CallFix p m c code 4 s #[Value.ref b] (q0 :: zw_tb) RL) (hX : zX s.heap.size D tc zq s) (hsc : va_X b L xs s s.heap) (hbl : b < s.heap.size) {i : Nat} (hi : i + 6 ≤ L) (hL : L ≤ 3072) {ad adM : Nat → Nat} {cw mw : zz_W} (hR : zRel cw mw) {H : Heap} {locs : List Loc} (hE : zE D tc s.heap.size ad zshC znnC (zws adM tc zshM znnM mw) cw s.heap H locs) {ls : Array Slot} (hl : lv_has ls 4 [(0, .ref b), (1, .ref (ad 0)), (2, .ref (adM 0)), (3, .int (nI i))]) {cells slots : Nat} (hc : cells + 3 ≤ 600000) (hs : slots + 196 ≤ 7302250) (kk : ∀ (ad2 : Nat → Nat) (cw2 mw2 : zz_W) (H2 : Heap) (locs2 : List Loc), zRel cw2 mw2 → ad2 0 = ad 0 → zE D tc s.heap.size ad2 zshC znnC (zws adM tc zshM znnM mw2) cw2 s.heap H2 locs2 → W p l e room_1 s m #[Value.ref b] below meth c H2 locs2 (cells + 3) (slots + 196) Q (F0 m 1650 ls [])) : W p l e room_1 s m #[Value.ref b] below meth c H locs cells slots Q (F0 m 1047 ls []) := by
  have hx := S.1
  have hb := S.2.1
  obtain ⟨r, c1, m1, e1, e2, hR2⟩ := s_fee cw mw hR
  refine lv_aload_n hx hb dL_law_1047 rfl (lv_at hl 1 rfl) ?_
  refine zr_i (zr_runV (As := []) S hX hE (kX7_fee l D tc s.heap.size ad (zws adM tc zshM znnM mw) zq cw r c1 e1) zyX7_fee qm_L_118 zcl_X7 rfl (zc_0 cw) ⟨rfl, rfl⟩ ⟨Nat.le_of_ble_eq_true rfl, Nat.le_of_ble_eq_true rfl⟩ rfl hl.1 rfl (Nat.le_of_ble_eq_true rfl) dL_law_1048 ⟨by show cells + 0 ≤ 600000; omega, by show slots + 0 ≤ 7302250; omega⟩) hE (fun H locs hE => ?_)
  have hE := zE_swap hE
  refine lv_aload_n hx hb dL_law_1051 rfl (lv_at hl 2 rfl) ?_
  refine zr_i (zr_runV (As := []) S hX hE (kX8_fee l D tc s.heap.size adM (zws ad tc zshC znnC c1) zq mw r m1 e2) zyX8_fee qm_L_121 zcl_X8 rfl (zm_0 mw) ⟨rfl, rfl⟩ ⟨Nat.le_of_ble_eq_true rfl, Nat.le_of_ble_eq_true rfl⟩ rfl hl.1 rfl (Nat.le_of_ble_eq_true rfl) dL_law_1052 ⟨by show cells + 0 + 0 ≤ 600000; omega, by show slots + 0 + 0 ≤ 7302250; omega⟩) hE (fun H locs hE => ?_)
  have hE := zE_swap hE
  refine lv_icmp_eq (tgt := 1650) hx hb dL_law_1055 (by decide) (fun _ => ?_) (fun c9 => absurd rfl c9)
  refine W.widen (k := cells + 3) (n := slots + 196) (Nat.le_add_right _ _) (Nat.le_add_right _ _) ?_
  exact kk ad c1 m1 _ _ hR2 (rfl) hE
set_option maxHeartbeats 4000000 in
set_option maxRecDepth 100000 in
theorem zl_26 {p : Program} {l : Launch} {e : Env} {s : State} {m : MethodId} {below : List Frame} {meth : Method} {c : Code} {b L : Nat} {xs : Nat → Int32} {D : va_G} {tc : Nat → ClassId} {zq : zz_Q} {q0 : Cond} {Q : State → Prop} (S : CallFix p m c code 4 s #[Value.ref b] (q0 :: zw_tb) RL) (hX : zX s.heap.size D tc zq s) (hsc : va_X b L xs s s.heap) (hbl : b < s.heap.size) {i : Nat} (hi : i + 6 ≤ L) (hL : L ≤ 3072) {ad adM : Nat → Nat} {cw mw : zz_W} (hR : zRel cw mw) {H : Heap} {locs : List Loc} (hE : zE D tc s.heap.size ad zshC znnC (zws adM tc zshM znnM mw) cw s.heap H locs) {ls : Array Slot} (hl : lv_has ls 4 [(0, .ref b), (1, .ref (ad 0)), (2, .ref (adM 0)), (3, .int (nI i))]) {cells slots : Nat} (hc : cells + 3 ≤ 600000) (hs : slots + 196 ≤ 7302250) (kk : ∀ (ad2 : Nat → Nat) (cw2 mw2 : zz_W) (H2 : Heap) (locs2 : List Loc), zRel cw2 mw2 → ad2 0 = ad 0 → zE D tc s.heap.size ad2 zshC znnC (zws adM tc zshM znnM mw2) cw2 s.heap H2 locs2 → W p l e room_1 s m #[Value.ref b] below meth c H2 locs2 (cells + 3) (slots + 196) Q (F0 m 1650 ls [])) : W p l e room_1 s m #[Value.ref b] below meth c H locs cells slots Q (F0 m 1060 ls []) := by
  have hx := S.1
  have hb := S.2.1
  obtain ⟨r, c1, m1, e1, e2, hR2⟩ := s_fine (xs (i + 1)) cw mw hR
  refine lv_aload_n hx hb dL_law_1060 rfl (lv_at hl 1 rfl) ?_
  refine lv_aload_n hx hb dL_law_1061 rfl (lv_at hl 0 rfl) ?_
  refine lv_iload_n hx hb dL_law_1062 rfl (lv_at hl 3 rfl) ?_
  refine lv_iconst (v := 1) hx hb dL_law_1063 (by decide) ?_
  refine lv_iadd hx hb dL_law_1064 ?_
  refine zr_sld S hsc hbl hE.2 (k := 1) (zix i 1 (by decide)) (by omega) hL dL_law_1065 ?_
  refine zr_i (zr_runV (As := [.int (xs (i + 1))]) S hX hE (kX7_fine l D tc s.heap.size ad (zws adM tc zshM znnM mw) zq (xs (i + 1)) cw r c1 e1) zyX7_fine qm_L_122 zcl_X7 rfl (zc_0 cw) ⟨rfl, rfl⟩ ⟨Nat.le_of_ble_eq_true rfl, Nat.le_of_ble_eq_true rfl⟩ rfl hl.1 rfl (Nat.le_of_ble_eq_true rfl) dL_law_1066 ⟨by show cells + 0 ≤ 600000; omega, by show slots + 0 ≤ 7302250; omega⟩) hE (fun H locs hE => ?_)
  have hE := zE_swap hE
  refine lv_aload_n hx hb dL_law_1069 rfl (lv_at hl 2 rfl) ?_
  refine lv_aload_n hx hb dL_law_1070 rfl (lv_at hl 0 rfl) ?_
  refine lv_iload_n hx hb dL_law_1071 rfl (lv_at hl 3 rfl) ?_
  refine lv_iconst (v := 1) hx hb dL_law_1072 (by decide) ?_
  refine lv_iadd hx hb dL_law_1073 ?_
  refine zr_sld S hsc hbl hE.2 (k := 1) (zix i 1 (by decide)) (by omega) hL dL_law_1074 ?_
  refine zr_i (zr_runV (As := [.int (xs (i + 1))]) S hX hE (kX8_fine l D tc s.heap.size adM (zws ad tc zshC znnC c1) zq (xs (i + 1)) mw r m1 e2) zyX8_fine qm_L_125 zcl_X8 rfl (zm_0 mw) ⟨rfl, rfl⟩ ⟨Nat.le_of_ble_eq_true rfl, Nat.le_of_ble_eq_true rfl⟩ rfl hl.1 rfl (Nat.le_of_ble_eq_true rfl) dL_law_1075 ⟨by show cells + 0 + 0 ≤ 600000; omega, by show slots + 0 + 0 ≤ 7302250; omega⟩) hE (fun H locs hE => ?_)
  have hE := zE_swap hE
  refine lv_icmp_eq (tgt := 1650) hx hb dL_law_1078 (by decide) (fun _ => ?_) (fun c9 => absurd rfl c9)
  refine W.widen (k := cells + 3) (n := slots + 196) (Nat.le_add_right _ _) (Nat.le_add_right _ _) ?_
  exact kk ad c1 m1 _ _ hR2 (rfl) hE
set_option maxHeartbeats 4000000 in
set_option maxRecDepth 100000 in
theorem zl_27 {p : Program} {l : Launch} {e : Env} {s : State} {m : MethodId} {below : List Frame} {meth : Method} {c : Code} {b L : Nat} {xs : Nat → Int32} {D : va_G} {tc : Nat → ClassId} {zq : zz_Q} {q0 : Cond} {Q : State → Prop} (S : CallFix p m c code 4 s #[Value.ref b] (q0 :: zw_tb) RL) (hX : zX s.heap.size D tc zq s) (hsc : va_X b L xs s s.heap) (hbl : b < s.heap.size) {i : Nat} (hi : i + 6 ≤ L) (hL : L ≤ 3072) {ad adM : Nat → Nat} {cw mw : zz_W} (hR : zRel cw mw) {H : Heap} {locs : List Loc} (hE : zE D tc s.heap.size ad zshC znnC (zws adM tc zshM znnM mw) cw s.heap H locs) {ls : Array Slot} (hl : lv_has ls 4 [(0, .ref b), (1, .ref (ad 0)), (2, .ref (adM 0)), (3, .int (nI i))]) {cells slots : Nat} (hc : cells + 3 ≤ 600000) (hs : slots + 196 ≤ 7302250) (kk : ∀ (ad2 : Nat → Nat) (cw2 mw2 : zz_W) (H2 : Heap) (locs2 : List Loc), zRel cw2 mw2 → ad2 0 = ad 0 → zE D tc s.heap.size ad2 zshC znnC (zws adM tc zshM znnM mw2) cw2 s.heap H2 locs2 → W p l e room_1 s m #[Value.ref b] below meth c H2 locs2 (cells + 3) (slots + 196) Q (F0 m 1650 ls [])) : W p l e room_1 s m #[Value.ref b] below meth c H locs cells slots Q (F0 m 1083 ls []) := by
  have hx := S.1
  have hb := S.2.1
  obtain ⟨r, c1, m1, e1, e2, hR2⟩ := s_feed (xs (i + 1)) (xs (i + 2)) (xs (i + 3)) cw mw hR
  refine lv_aload_n hx hb dL_law_1083 rfl (lv_at hl 1 rfl) ?_
  refine lv_aload_n hx hb dL_law_1084 rfl (lv_at hl 0 rfl) ?_
  refine lv_iload_n hx hb dL_law_1085 rfl (lv_at hl 3 rfl) ?_
  refine lv_iconst (v := 1) hx hb dL_law_1086 (by decide) ?_
  refine lv_iadd hx hb dL_law_1087 ?_
  refine zr_sld S hsc hbl hE.2 (k := 1) (zix i 1 (by decide)) (by omega) hL dL_law_1088 ?_
  refine lv_aload_n hx hb dL_law_1089 rfl (lv_at hl 0 rfl) ?_
  refine lv_iload_n hx hb dL_law_1090 rfl (lv_at hl 3 rfl) ?_
  refine lv_iconst (v := 2) hx hb dL_law_1091 (by decide) ?_
  refine lv_iadd hx hb dL_law_1092 ?_
  refine zr_sld S hsc hbl hE.2 (k := 2) (zix i 2 (by decide)) (by omega) hL dL_law_1093 ?_
  refine lv_aload_n hx hb dL_law_1094 rfl (lv_at hl 0 rfl) ?_
  refine lv_iload_n hx hb dL_law_1095 rfl (lv_at hl 3 rfl) ?_
  refine lv_iconst (v := 3) hx hb dL_law_1096 (by decide) ?_
  refine lv_iadd hx hb dL_law_1097 ?_
  refine zr_sld S hsc hbl hE.2 (k := 3) (zix i 3 (by decide)) (by omega) hL dL_law_1098 ?_
  refine zr_i (zr_runV (As := [.int (xs (i + 1)), .int (xs (i + 2)), .int (xs (i + 3))]) S hX hE (kX7_feed l D tc s.heap.size ad (zws adM tc zshM znnM mw) zq (xs (i + 1)) (xs (i + 2)) (xs (i + 3)) cw r c1 e1) zyX7_feed qm_L_126 zcl_X7 rfl (zc_0 cw) ⟨rfl, rfl⟩ ⟨Nat.le_of_ble_eq_true rfl, Nat.le_of_ble_eq_true rfl⟩ rfl hl.1 rfl (Nat.le_of_ble_eq_true rfl) dL_law_1099 ⟨by show cells + 0 ≤ 600000; omega, by show slots + 0 ≤ 7302250; omega⟩) hE (fun H locs hE => ?_)
  have hE := zE_swap hE
  refine lv_aload_n hx hb dL_law_1102 rfl (lv_at hl 2 rfl) ?_
  refine lv_aload_n hx hb dL_law_1103 rfl (lv_at hl 0 rfl) ?_
  refine lv_iload_n hx hb dL_law_1104 rfl (lv_at hl 3 rfl) ?_
  refine lv_iconst (v := 1) hx hb dL_law_1105 (by decide) ?_
  refine lv_iadd hx hb dL_law_1106 ?_
  refine zr_sld S hsc hbl hE.2 (k := 1) (zix i 1 (by decide)) (by omega) hL dL_law_1107 ?_
  refine lv_aload_n hx hb dL_law_1108 rfl (lv_at hl 0 rfl) ?_
  refine lv_iload_n hx hb dL_law_1109 rfl (lv_at hl 3 rfl) ?_
  refine lv_iconst (v := 2) hx hb dL_law_1110 (by decide) ?_
  refine lv_iadd hx hb dL_law_1111 ?_
  refine zr_sld S hsc hbl hE.2 (k := 2) (zix i 2 (by decide)) (by omega) hL dL_law_1112 ?_
  refine lv_aload_n hx hb dL_law_1113 rfl (lv_at hl 0 rfl) ?_
  refine lv_iload_n hx hb dL_law_1114 rfl (lv_at hl 3 rfl) ?_
  refine lv_iconst (v := 3) hx hb dL_law_1115 (by decide) ?_
  refine lv_iadd hx hb dL_law_1116 ?_
  refine zr_sld S hsc hbl hE.2 (k := 3) (zix i 3 (by decide)) (by omega) hL dL_law_1117 ?_
  refine zr_i (zr_runV (As := [.int (xs (i + 1)), .int (xs (i + 2)), .int (xs (i + 3))]) S hX hE (kX8_feed l D tc s.heap.size adM (zws ad tc zshC znnC c1) zq (xs (i + 1)) (xs (i + 2)) (xs (i + 3)) mw r m1 e2) zyX8_feed qm_L_129 zcl_X8 rfl (zm_0 mw) ⟨rfl, rfl⟩ ⟨Nat.le_of_ble_eq_true rfl, Nat.le_of_ble_eq_true rfl⟩ rfl hl.1 rfl (Nat.le_of_ble_eq_true rfl) dL_law_1118 ⟨by show cells + 0 + 0 ≤ 600000; omega, by show slots + 0 + 0 ≤ 7302250; omega⟩) hE (fun H locs hE => ?_)
  have hE := zE_swap hE
  refine lv_icmp_eq (tgt := 1650) hx hb dL_law_1121 (by decide) (fun _ => ?_) (fun c9 => absurd rfl c9)
  refine W.widen (k := cells + 3) (n := slots + 196) (Nat.le_add_right _ _) (Nat.le_add_right _ _) ?_
  exact kk ad c1 m1 _ _ hR2 (rfl) hE
set_option maxHeartbeats 4000000 in
set_option maxRecDepth 100000 in
theorem zl_28 {p : Program} {l : Launch} {e : Env} {s : State} {m : MethodId} {below : List Frame} {meth : Method} {c : Code} {b L : Nat} {xs : Nat → Int32} {D : va_G} {tc : Nat → ClassId} {zq : zz_Q} {q0 : Cond} {Q : State → Prop} (S : CallFix p m c code 4 s #[Value.ref b] (q0 :: zw_tb) RL) (hX : zX s.heap.size D tc zq s) (hsc : va_X b L xs s s.heap) (hbl : b < s.heap.size) {i : Nat} (hi : i + 6 ≤ L) (hL : L ≤ 3072) {ad adM : Nat → Nat} {cw mw : zz_W} (hR : zRel cw mw) {H : Heap} {locs : List Loc} (hE : zE D tc s.heap.size ad zshC znnC (zws adM tc zshM znnM mw) cw s.heap H locs) {ls : Array Slot} (hl : lv_has ls 4 [(0, .ref b), (1, .ref (ad 0)), (2, .ref (adM 0)), (3, .int (nI i))]) {cells slots : Nat} (hc : cells + 3 ≤ 600000) (hs : slots + 196 ≤ 7302250) (kk : ∀ (ad2 : Nat → Nat) (cw2 mw2 : zz_W) (H2 : Heap) (locs2 : List Loc), zRel cw2 mw2 → ad2 0 = ad 0 → zE D tc s.heap.size ad2 zshC znnC (zws adM tc zshM znnM mw2) cw2 s.heap H2 locs2 → W p l e room_1 s m #[Value.ref b] below meth c H2 locs2 (cells + 3) (slots + 196) Q (F0 m 1650 ls [])) : W p l e room_1 s m #[Value.ref b] below meth c H locs cells slots Q (F0 m 1126 ls []) := by
  have hx := S.1
  have hb := S.2.1
  obtain ⟨r, c1, m1, e1, e2, hR2⟩ := s_trim (xs (i + 1)) cw mw hR
  refine lv_aload_n hx hb dL_law_1126 rfl (lv_at hl 1 rfl) ?_
  refine lv_aload_n hx hb dL_law_1127 rfl (lv_at hl 0 rfl) ?_
  refine lv_iload_n hx hb dL_law_1128 rfl (lv_at hl 3 rfl) ?_
  refine lv_iconst (v := 1) hx hb dL_law_1129 (by decide) ?_
  refine lv_iadd hx hb dL_law_1130 ?_
  refine zr_sld S hsc hbl hE.2 (k := 1) (zix i 1 (by decide)) (by omega) hL dL_law_1131 ?_
  refine zr_i (zr_runV (As := [.int (xs (i + 1))]) S hX hE (kX7_trim l D tc s.heap.size ad (zws adM tc zshM znnM mw) zq (xs (i + 1)) cw r c1 e1) zyX7_trim qm_L_130 zcl_X7 rfl (zc_0 cw) ⟨rfl, rfl⟩ ⟨Nat.le_of_ble_eq_true rfl, Nat.le_of_ble_eq_true rfl⟩ rfl hl.1 rfl (Nat.le_of_ble_eq_true rfl) dL_law_1132 ⟨by show cells + 0 ≤ 600000; omega, by show slots + 0 ≤ 7302250; omega⟩) hE (fun H locs hE => ?_)
  have hE := zE_swap hE
  refine lv_aload_n hx hb dL_law_1135 rfl (lv_at hl 2 rfl) ?_
  refine lv_aload_n hx hb dL_law_1136 rfl (lv_at hl 0 rfl) ?_
  refine lv_iload_n hx hb dL_law_1137 rfl (lv_at hl 3 rfl) ?_
  refine lv_iconst (v := 1) hx hb dL_law_1138 (by decide) ?_
  refine lv_iadd hx hb dL_law_1139 ?_
  refine zr_sld S hsc hbl hE.2 (k := 1) (zix i 1 (by decide)) (by omega) hL dL_law_1140 ?_
  refine zr_i (zr_runV (As := [.int (xs (i + 1))]) S hX hE (kX8_trim l D tc s.heap.size adM (zws ad tc zshC znnC c1) zq (xs (i + 1)) mw r m1 e2) zyX8_trim qm_L_133 zcl_X8 rfl (zm_0 mw) ⟨rfl, rfl⟩ ⟨Nat.le_of_ble_eq_true rfl, Nat.le_of_ble_eq_true rfl⟩ rfl hl.1 rfl (Nat.le_of_ble_eq_true rfl) dL_law_1141 ⟨by show cells + 0 + 0 ≤ 600000; omega, by show slots + 0 + 0 ≤ 7302250; omega⟩) hE (fun H locs hE => ?_)
  have hE := zE_swap hE
  refine lv_icmp_eq (tgt := 1650) hx hb dL_law_1144 (by decide) (fun _ => ?_) (fun c9 => absurd rfl c9)
  refine W.widen (k := cells + 3) (n := slots + 196) (Nat.le_add_right _ _) (Nat.le_add_right _ _) ?_
  exact kk ad c1 m1 _ _ hR2 (rfl) hE
set_option maxHeartbeats 4000000 in
set_option maxRecDepth 100000 in
theorem zl_29 {p : Program} {l : Launch} {e : Env} {s : State} {m : MethodId} {below : List Frame} {meth : Method} {c : Code} {b L : Nat} {xs : Nat → Int32} {D : va_G} {tc : Nat → ClassId} {zq : zz_Q} {q0 : Cond} {Q : State → Prop} (S : CallFix p m c code 4 s #[Value.ref b] (q0 :: zw_tb) RL) (hX : zX s.heap.size D tc zq s) (hsc : va_X b L xs s s.heap) (hbl : b < s.heap.size) {i : Nat} (hi : i + 6 ≤ L) (hL : L ≤ 3072) {ad adM : Nat → Nat} {cw mw : zz_W} (hR : zRel cw mw) {H : Heap} {locs : List Loc} (hE : zE D tc s.heap.size ad zshC znnC (zws adM tc zshM znnM mw) cw s.heap H locs) {ls : Array Slot} (hl : lv_has ls 4 [(0, .ref b), (1, .ref (ad 0)), (2, .ref (adM 0)), (3, .int (nI i))]) {cells slots : Nat} (hc : cells + 3 ≤ 600000) (hs : slots + 196 ≤ 7302250) (kk : ∀ (ad2 : Nat → Nat) (cw2 mw2 : zz_W) (H2 : Heap) (locs2 : List Loc), zRel cw2 mw2 → ad2 0 = ad 0 → zE D tc s.heap.size ad2 zshC znnC (zws adM tc zshM znnM mw2) cw2 s.heap H2 locs2 → W p l e room_1 s m #[Value.ref b] below meth c H2 locs2 (cells + 3) (slots + 196) Q (F0 m 1650 ls [])) : W p l e room_1 s m #[Value.ref b] below meth c H locs cells slots Q (F0 m 1149 ls []) := by
  have hx := S.1
  have hb := S.2.1
  obtain ⟨r, c1, m1, e1, e2, hR2⟩ := s_text cw mw hR
  refine lv_aload_n hx hb dL_law_1149 rfl (lv_at hl 1 rfl) ?_
  refine va_calli (zr_runV (As := []) (rest := []) S hX hE (kX7_text l D tc s.heap.size ad (zws adM tc zshM znnM mw) zq cw r c1 e1) zyX7_text qm_L_134 zcl_X7 rfl (zc_0 cw) ⟨rfl, rfl⟩ ⟨Nat.le_of_ble_eq_true rfl, Nat.le_of_ble_eq_true rfl⟩ rfl hl.1 rfl (Nat.le_of_ble_eq_true rfl) dL_law_1150 ⟨by show cells + 3 ≤ 600000; omega, by show slots + 196 ≤ 7302250; omega⟩) hE.2 (fun _ _ h => h) (fun _ h => h) (fun r2 ad2 t H1 locs ht hvm hp hB _ _ hS => ?_)
  obtain ⟨rfl, hk65⟩ := hp
  rw [ht] at hB
  have hE : zE D tc s.heap.size ad2 zshC znnC (zws adM tc zshM znnM mw) c1 s.heap H1 locs := ⟨hB, hS⟩
  have hE := zE_swap hE
  refine lv_aload_n hx hb dL_law_1153 rfl (lv_at hl 2 rfl) ?_
  refine zr_i (zr_runV (As := []) S hX hE (kX8_text l D tc s.heap.size adM (zws ad2 tc zshC znnC c1) zq mw r2 m1 e2) zyX8_text qm_L_137 zcl_X8 rfl (zm_0 mw) ⟨rfl, rfl⟩ ⟨Nat.le_of_ble_eq_true rfl, Nat.le_of_ble_eq_true rfl⟩ rfl hl.1 rfl (Nat.le_of_ble_eq_true rfl) dL_law_1154 ⟨by show cells + 3 + 0 ≤ 600000; omega, by show slots + 196 + 0 ≤ 7302250; omega⟩) hE (fun H locs hE => ?_)
  have hE := zE_swap hE
  refine lv_icmp_eq (tgt := 1650) hx hb dL_law_1157 (by decide) (fun _ => ?_) (fun c9 => absurd rfl c9)
  exact kk ad2 c1 m1 _ _ hR2 (hk65 0 (by decide)) hE
set_option maxHeartbeats 4000000 in
set_option maxRecDepth 100000 in
theorem zl_30 {p : Program} {l : Launch} {e : Env} {s : State} {m : MethodId} {below : List Frame} {meth : Method} {c : Code} {b L : Nat} {xs : Nat → Int32} {D : va_G} {tc : Nat → ClassId} {zq : zz_Q} {q0 : Cond} {Q : State → Prop} (S : CallFix p m c code 4 s #[Value.ref b] (q0 :: zw_tb) RL) (hX : zX s.heap.size D tc zq s) (hsc : va_X b L xs s s.heap) (hbl : b < s.heap.size) {i : Nat} (hi : i + 6 ≤ L) (hL : L ≤ 3072) {ad adM : Nat → Nat} {cw mw : zz_W} (hR : zRel cw mw) {H : Heap} {locs : List Loc} (hE : zE D tc s.heap.size ad zshC znnC (zws adM tc zshM znnM mw) cw s.heap H locs) {ls : Array Slot} (hl : lv_has ls 4 [(0, .ref b), (1, .ref (ad 0)), (2, .ref (adM 0)), (3, .int (nI i))]) {cells slots : Nat} (hc : cells + 3 ≤ 600000) (hs : slots + 196 ≤ 7302250) (kk : ∀ (ad2 : Nat → Nat) (cw2 mw2 : zz_W) (H2 : Heap) (locs2 : List Loc), zRel cw2 mw2 → ad2 0 = ad 0 → zE D tc s.heap.size ad2 zshC znnC (zws adM tc zshM znnM mw2) cw2 s.heap H2 locs2 → W p l e room_1 s m #[Value.ref b] below meth c H2 locs2 (cells + 3) (slots + 196) Q (F0 m 1650 ls [])) : W p l e room_1 s m #[Value.ref b] below meth c H locs cells slots Q (F0 m 1162 ls []) := by
  have hx := S.1
  have hb := S.2.1
  obtain ⟨r, c1, m1, e1, e2, hR2⟩ := s_textTold (xs (i + 1)) (xs (i + 2)) cw mw hR
  refine lv_aload_n hx hb dL_law_1162 rfl (lv_at hl 1 rfl) ?_
  refine lv_aload_n hx hb dL_law_1163 rfl (lv_at hl 0 rfl) ?_
  refine lv_iload_n hx hb dL_law_1164 rfl (lv_at hl 3 rfl) ?_
  refine lv_iconst (v := 1) hx hb dL_law_1165 (by decide) ?_
  refine lv_iadd hx hb dL_law_1166 ?_
  refine zr_sld S hsc hbl hE.2 (k := 1) (zix i 1 (by decide)) (by omega) hL dL_law_1167 ?_
  refine lv_aload_n hx hb dL_law_1168 rfl (lv_at hl 0 rfl) ?_
  refine lv_iload_n hx hb dL_law_1169 rfl (lv_at hl 3 rfl) ?_
  refine lv_iconst (v := 2) hx hb dL_law_1170 (by decide) ?_
  refine lv_iadd hx hb dL_law_1171 ?_
  refine zr_sld S hsc hbl hE.2 (k := 2) (zix i 2 (by decide)) (by omega) hL dL_law_1172 ?_
  refine zr_i (zr_runV (As := [.int (xs (i + 1)), .int (xs (i + 2))]) S hX hE (kX7_textTold l D tc s.heap.size ad (zws adM tc zshM znnM mw) zq (xs (i + 1)) (xs (i + 2)) cw r c1 e1) zyX7_textTold qm_L_138 zcl_X7 rfl (zc_0 cw) ⟨rfl, rfl⟩ ⟨Nat.le_of_ble_eq_true rfl, Nat.le_of_ble_eq_true rfl⟩ rfl hl.1 rfl (Nat.le_of_ble_eq_true rfl) dL_law_1173 ⟨by show cells + 0 ≤ 600000; omega, by show slots + 0 ≤ 7302250; omega⟩) hE (fun H locs hE => ?_)
  have hE := zE_swap hE
  refine lv_aload_n hx hb dL_law_1176 rfl (lv_at hl 2 rfl) ?_
  refine lv_aload_n hx hb dL_law_1177 rfl (lv_at hl 0 rfl) ?_
  refine lv_iload_n hx hb dL_law_1178 rfl (lv_at hl 3 rfl) ?_
  refine lv_iconst (v := 1) hx hb dL_law_1179 (by decide) ?_
  refine lv_iadd hx hb dL_law_1180 ?_
  refine zr_sld S hsc hbl hE.2 (k := 1) (zix i 1 (by decide)) (by omega) hL dL_law_1181 ?_
  refine lv_aload_n hx hb dL_law_1182 rfl (lv_at hl 0 rfl) ?_
  refine lv_iload_n hx hb dL_law_1183 rfl (lv_at hl 3 rfl) ?_
  refine lv_iconst (v := 2) hx hb dL_law_1184 (by decide) ?_
  refine lv_iadd hx hb dL_law_1185 ?_
  refine zr_sld S hsc hbl hE.2 (k := 2) (zix i 2 (by decide)) (by omega) hL dL_law_1186 ?_
  refine zr_i (zr_runV (As := [.int (xs (i + 1)), .int (xs (i + 2))]) S hX hE (kX8_textTold l D tc s.heap.size adM (zws ad tc zshC znnC c1) zq (xs (i + 1)) (xs (i + 2)) mw r m1 e2) zyX8_textTold qm_L_141 zcl_X8 rfl (zm_0 mw) ⟨rfl, rfl⟩ ⟨Nat.le_of_ble_eq_true rfl, Nat.le_of_ble_eq_true rfl⟩ rfl hl.1 rfl (Nat.le_of_ble_eq_true rfl) dL_law_1187 ⟨by show cells + 0 + 0 ≤ 600000; omega, by show slots + 0 + 0 ≤ 7302250; omega⟩) hE (fun H locs hE => ?_)
  have hE := zE_swap hE
  refine lv_icmp_eq (tgt := 1650) hx hb dL_law_1190 (by decide) (fun _ => ?_) (fun c9 => absurd rfl c9)
  refine W.widen (k := cells + 3) (n := slots + 196) (Nat.le_add_right _ _) (Nat.le_add_right _ _) ?_
  exact kk ad c1 m1 _ _ hR2 (rfl) hE
set_option maxHeartbeats 4000000 in
set_option maxRecDepth 100000 in
theorem zl_31 {p : Program} {l : Launch} {e : Env} {s : State} {m : MethodId} {below : List Frame} {meth : Method} {c : Code} {b L : Nat} {xs : Nat → Int32} {D : va_G} {tc : Nat → ClassId} {zq : zz_Q} {q0 : Cond} {Q : State → Prop} (S : CallFix p m c code 4 s #[Value.ref b] (q0 :: zw_tb) RL) (hX : zX s.heap.size D tc zq s) (hsc : va_X b L xs s s.heap) (hbl : b < s.heap.size) {i : Nat} (hi : i + 6 ≤ L) (hL : L ≤ 3072) {ad adM : Nat → Nat} {cw mw : zz_W} (hR : zRel cw mw) {H : Heap} {locs : List Loc} (hE : zE D tc s.heap.size ad zshC znnC (zws adM tc zshM znnM mw) cw s.heap H locs) {ls : Array Slot} (hl : lv_has ls 4 [(0, .ref b), (1, .ref (ad 0)), (2, .ref (adM 0)), (3, .int (nI i))]) {cells slots : Nat} (hc : cells + 3 ≤ 600000) (hs : slots + 196 ≤ 7302250) (kk : ∀ (ad2 : Nat → Nat) (cw2 mw2 : zz_W) (H2 : Heap) (locs2 : List Loc), zRel cw2 mw2 → ad2 0 = ad 0 → zE D tc s.heap.size ad2 zshC znnC (zws adM tc zshM znnM mw2) cw2 s.heap H2 locs2 → W p l e room_1 s m #[Value.ref b] below meth c H2 locs2 (cells + 3) (slots + 196) Q (F0 m 1650 ls [])) : W p l e room_1 s m #[Value.ref b] below meth c H locs cells slots Q (F0 m 1195 ls []) := by
  have hx := S.1
  have hb := S.2.1
  obtain ⟨r, c1, m1, e1, e2, hR2⟩ := s_why (xs (i + 1)) cw mw hR
  refine lv_aload_n hx hb dL_law_1195 rfl (lv_at hl 1 rfl) ?_
  refine lv_aload_n hx hb dL_law_1196 rfl (lv_at hl 0 rfl) ?_
  refine lv_iload_n hx hb dL_law_1197 rfl (lv_at hl 3 rfl) ?_
  refine lv_iconst (v := 1) hx hb dL_law_1198 (by decide) ?_
  refine lv_iadd hx hb dL_law_1199 ?_
  refine zr_sld S hsc hbl hE.2 (k := 1) (zix i 1 (by decide)) (by omega) hL dL_law_1200 ?_
  refine zr_i (zr_runV (As := [.int (xs (i + 1))]) S hX hE (kX7_why l D tc s.heap.size ad (zws adM tc zshM znnM mw) zq (xs (i + 1)) cw r c1 e1) zyX7_why qm_L_142 zcl_X7 rfl (zc_0 cw) ⟨rfl, rfl⟩ ⟨Nat.le_of_ble_eq_true rfl, Nat.le_of_ble_eq_true rfl⟩ rfl hl.1 rfl (Nat.le_of_ble_eq_true rfl) dL_law_1201 ⟨by show cells + 0 ≤ 600000; omega, by show slots + 0 ≤ 7302250; omega⟩) hE (fun H locs hE => ?_)
  have hE := zE_swap hE
  refine lv_aload_n hx hb dL_law_1204 rfl (lv_at hl 2 rfl) ?_
  refine lv_aload_n hx hb dL_law_1205 rfl (lv_at hl 0 rfl) ?_
  refine lv_iload_n hx hb dL_law_1206 rfl (lv_at hl 3 rfl) ?_
  refine lv_iconst (v := 1) hx hb dL_law_1207 (by decide) ?_
  refine lv_iadd hx hb dL_law_1208 ?_
  refine zr_sld S hsc hbl hE.2 (k := 1) (zix i 1 (by decide)) (by omega) hL dL_law_1209 ?_
  refine zr_i (zr_runV (As := [.int (xs (i + 1))]) S hX hE (kX8_why l D tc s.heap.size adM (zws ad tc zshC znnC c1) zq (xs (i + 1)) mw r m1 e2) zyX8_why qm_L_145 zcl_X8 rfl (zm_0 mw) ⟨rfl, rfl⟩ ⟨Nat.le_of_ble_eq_true rfl, Nat.le_of_ble_eq_true rfl⟩ rfl hl.1 rfl (Nat.le_of_ble_eq_true rfl) dL_law_1210 ⟨by show cells + 0 + 0 ≤ 600000; omega, by show slots + 0 + 0 ≤ 7302250; omega⟩) hE (fun H locs hE => ?_)
  have hE := zE_swap hE
  refine lv_icmp_eq (tgt := 1650) hx hb dL_law_1213 (by decide) (fun _ => ?_) (fun c9 => absurd rfl c9)
  refine W.widen (k := cells + 3) (n := slots + 196) (Nat.le_add_right _ _) (Nat.le_add_right _ _) ?_
  exact kk ad c1 m1 _ _ hR2 (rfl) hE
set_option maxHeartbeats 4000000 in
set_option maxRecDepth 100000 in
theorem zl_32 {p : Program} {l : Launch} {e : Env} {s : State} {m : MethodId} {below : List Frame} {meth : Method} {c : Code} {b L : Nat} {xs : Nat → Int32} {D : va_G} {tc : Nat → ClassId} {zq : zz_Q} {q0 : Cond} {Q : State → Prop} (S : CallFix p m c code 4 s #[Value.ref b] (q0 :: zw_tb) RL) (hX : zX s.heap.size D tc zq s) (hsc : va_X b L xs s s.heap) (hbl : b < s.heap.size) {i : Nat} (hi : i + 6 ≤ L) (hL : L ≤ 3072) {ad adM : Nat → Nat} {cw mw : zz_W} (hR : zRel cw mw) {H : Heap} {locs : List Loc} (hE : zE D tc s.heap.size ad zshC znnC (zws adM tc zshM znnM mw) cw s.heap H locs) {ls : Array Slot} (hl : lv_has ls 4 [(0, .ref b), (1, .ref (ad 0)), (2, .ref (adM 0)), (3, .int (nI i))]) {cells slots : Nat} (hc : cells + 3 ≤ 600000) (hs : slots + 196 ≤ 7302250) (kk : ∀ (ad2 : Nat → Nat) (cw2 mw2 : zz_W) (H2 : Heap) (locs2 : List Loc), zRel cw2 mw2 → ad2 0 = ad 0 → zE D tc s.heap.size ad2 zshC znnC (zws adM tc zshM znnM mw2) cw2 s.heap H2 locs2 → W p l e room_1 s m #[Value.ref b] below meth c H2 locs2 (cells + 3) (slots + 196) Q (F0 m 1650 ls [])) : W p l e room_1 s m #[Value.ref b] below meth c H locs cells slots Q (F0 m 1218 ls []) := by
  have hx := S.1
  have hb := S.2.1
  obtain ⟨r, c1, m1, e1, e2, hR2⟩ := s_sheet (xs (i + 1)) (xs (i + 2)) (xs (i + 3)) cw mw hR
  refine lv_aload_n hx hb dL_law_1218 rfl (lv_at hl 1 rfl) ?_
  refine lv_aload_n hx hb dL_law_1219 rfl (lv_at hl 0 rfl) ?_
  refine lv_iload_n hx hb dL_law_1220 rfl (lv_at hl 3 rfl) ?_
  refine lv_iconst (v := 1) hx hb dL_law_1221 (by decide) ?_
  refine lv_iadd hx hb dL_law_1222 ?_
  refine zr_sld S hsc hbl hE.2 (k := 1) (zix i 1 (by decide)) (by omega) hL dL_law_1223 ?_
  refine lv_aload_n hx hb dL_law_1224 rfl (lv_at hl 0 rfl) ?_
  refine lv_iload_n hx hb dL_law_1225 rfl (lv_at hl 3 rfl) ?_
  refine lv_iconst (v := 2) hx hb dL_law_1226 (by decide) ?_
  refine lv_iadd hx hb dL_law_1227 ?_
  refine zr_sld S hsc hbl hE.2 (k := 2) (zix i 2 (by decide)) (by omega) hL dL_law_1228 ?_
  refine lv_aload_n hx hb dL_law_1229 rfl (lv_at hl 0 rfl) ?_
  refine lv_iload_n hx hb dL_law_1230 rfl (lv_at hl 3 rfl) ?_
  refine lv_iconst (v := 3) hx hb dL_law_1231 (by decide) ?_
  refine lv_iadd hx hb dL_law_1232 ?_
  refine zr_sld S hsc hbl hE.2 (k := 3) (zix i 3 (by decide)) (by omega) hL dL_law_1233 ?_
  refine zr_i (zr_runV (As := [.int (xs (i + 1)), .int (xs (i + 2)), .int (xs (i + 3))]) S hX hE (kX7_sheet l D tc s.heap.size ad (zws adM tc zshM znnM mw) zq (xs (i + 1)) (xs (i + 2)) (xs (i + 3)) cw r c1 e1) zyX7_sheet qm_L_146 zcl_X7 rfl (zc_0 cw) ⟨rfl, rfl⟩ ⟨Nat.le_of_ble_eq_true rfl, Nat.le_of_ble_eq_true rfl⟩ rfl hl.1 rfl (Nat.le_of_ble_eq_true rfl) dL_law_1234 ⟨by show cells + 0 ≤ 600000; omega, by show slots + 0 ≤ 7302250; omega⟩) hE (fun H locs hE => ?_)
  have hE := zE_swap hE
  refine lv_aload_n hx hb dL_law_1237 rfl (lv_at hl 2 rfl) ?_
  refine lv_aload_n hx hb dL_law_1238 rfl (lv_at hl 0 rfl) ?_
  refine lv_iload_n hx hb dL_law_1239 rfl (lv_at hl 3 rfl) ?_
  refine lv_iconst (v := 1) hx hb dL_law_1240 (by decide) ?_
  refine lv_iadd hx hb dL_law_1241 ?_
  refine zr_sld S hsc hbl hE.2 (k := 1) (zix i 1 (by decide)) (by omega) hL dL_law_1242 ?_
  refine lv_aload_n hx hb dL_law_1243 rfl (lv_at hl 0 rfl) ?_
  refine lv_iload_n hx hb dL_law_1244 rfl (lv_at hl 3 rfl) ?_
  refine lv_iconst (v := 2) hx hb dL_law_1245 (by decide) ?_
  refine lv_iadd hx hb dL_law_1246 ?_
  refine zr_sld S hsc hbl hE.2 (k := 2) (zix i 2 (by decide)) (by omega) hL dL_law_1247 ?_
  refine lv_aload_n hx hb dL_law_1248 rfl (lv_at hl 0 rfl) ?_
  refine lv_iload_n hx hb dL_law_1249 rfl (lv_at hl 3 rfl) ?_
  refine lv_iconst (v := 3) hx hb dL_law_1250 (by decide) ?_
  refine lv_iadd hx hb dL_law_1251 ?_
  refine zr_sld S hsc hbl hE.2 (k := 3) (zix i 3 (by decide)) (by omega) hL dL_law_1252 ?_
  refine zr_i (zr_runV (As := [.int (xs (i + 1)), .int (xs (i + 2)), .int (xs (i + 3))]) S hX hE (kX8_sheet l D tc s.heap.size adM (zws ad tc zshC znnC c1) zq (xs (i + 1)) (xs (i + 2)) (xs (i + 3)) mw r m1 e2) zyX8_sheet qm_L_149 zcl_X8 rfl (zm_0 mw) ⟨rfl, rfl⟩ ⟨Nat.le_of_ble_eq_true rfl, Nat.le_of_ble_eq_true rfl⟩ rfl hl.1 rfl (Nat.le_of_ble_eq_true rfl) dL_law_1253 ⟨by show cells + 0 + 0 ≤ 600000; omega, by show slots + 0 + 0 ≤ 7302250; omega⟩) hE (fun H locs hE => ?_)
  have hE := zE_swap hE
  refine lv_icmp_eq (tgt := 1650) hx hb dL_law_1256 (by decide) (fun _ => ?_) (fun c9 => absurd rfl c9)
  refine W.widen (k := cells + 3) (n := slots + 196) (Nat.le_add_right _ _) (Nat.le_add_right _ _) ?_
  exact kk ad c1 m1 _ _ hR2 (rfl) hE
set_option maxHeartbeats 4000000 in
set_option maxRecDepth 100000 in
theorem zl_33 {p : Program} {l : Launch} {e : Env} {s : State} {m : MethodId} {below : List Frame} {meth : Method} {c : Code} {b L : Nat} {xs : Nat → Int32} {D : va_G} {tc : Nat → ClassId} {zq : zz_Q} {q0 : Cond} {Q : State → Prop} (S : CallFix p m c code 4 s #[Value.ref b] (q0 :: zw_tb) RL) (hX : zX s.heap.size D tc zq s) (hsc : va_X b L xs s s.heap) (hbl : b < s.heap.size) {i : Nat} (hi : i + 6 ≤ L) (hL : L ≤ 3072) {ad adM : Nat → Nat} {cw mw : zz_W} (hR : zRel cw mw) {H : Heap} {locs : List Loc} (hE : zE D tc s.heap.size ad zshC znnC (zws adM tc zshM znnM mw) cw s.heap H locs) {ls : Array Slot} (hl : lv_has ls 4 [(0, .ref b), (1, .ref (ad 0)), (2, .ref (adM 0)), (3, .int (nI i))]) {cells slots : Nat} (hc : cells + 3 ≤ 600000) (hs : slots + 196 ≤ 7302250) (kk : ∀ (ad2 : Nat → Nat) (cw2 mw2 : zz_W) (H2 : Heap) (locs2 : List Loc), zRel cw2 mw2 → ad2 0 = ad 0 → zE D tc s.heap.size ad2 zshC znnC (zws adM tc zshM znnM mw2) cw2 s.heap H2 locs2 → W p l e room_1 s m #[Value.ref b] below meth c H2 locs2 (cells + 3) (slots + 196) Q (F0 m 1650 ls [])) : W p l e room_1 s m #[Value.ref b] below meth c H locs cells slots Q (F0 m 1261 ls []) := by
  have hx := S.1
  have hb := S.2.1
  obtain ⟨r, c1, m1, e1, e2, hR2⟩ := s_mark (xs (i + 1)) (xs (i + 2)) (xs (i + 3)) cw mw hR
  refine lv_aload_n hx hb dL_law_1261 rfl (lv_at hl 1 rfl) ?_
  refine lv_aload_n hx hb dL_law_1262 rfl (lv_at hl 0 rfl) ?_
  refine lv_iload_n hx hb dL_law_1263 rfl (lv_at hl 3 rfl) ?_
  refine lv_iconst (v := 1) hx hb dL_law_1264 (by decide) ?_
  refine lv_iadd hx hb dL_law_1265 ?_
  refine zr_sld S hsc hbl hE.2 (k := 1) (zix i 1 (by decide)) (by omega) hL dL_law_1266 ?_
  refine lv_aload_n hx hb dL_law_1267 rfl (lv_at hl 0 rfl) ?_
  refine lv_iload_n hx hb dL_law_1268 rfl (lv_at hl 3 rfl) ?_
  refine lv_iconst (v := 2) hx hb dL_law_1269 (by decide) ?_
  refine lv_iadd hx hb dL_law_1270 ?_
  refine zr_sld S hsc hbl hE.2 (k := 2) (zix i 2 (by decide)) (by omega) hL dL_law_1271 ?_
  refine lv_aload_n hx hb dL_law_1272 rfl (lv_at hl 0 rfl) ?_
  refine lv_iload_n hx hb dL_law_1273 rfl (lv_at hl 3 rfl) ?_
  refine lv_iconst (v := 3) hx hb dL_law_1274 (by decide) ?_
  refine lv_iadd hx hb dL_law_1275 ?_
  refine zr_sld S hsc hbl hE.2 (k := 3) (zix i 3 (by decide)) (by omega) hL dL_law_1276 ?_
  refine zr_i (zr_runV (As := [.int (xs (i + 1)), .int (xs (i + 2)), .int (xs (i + 3))]) S hX hE (kX7_mark l D tc s.heap.size ad (zws adM tc zshM znnM mw) zq (xs (i + 1)) (xs (i + 2)) (xs (i + 3)) cw r c1 e1) zyX7_mark qm_L_150 zcl_X7 rfl (zc_0 cw) ⟨rfl, rfl⟩ ⟨Nat.le_of_ble_eq_true rfl, Nat.le_of_ble_eq_true rfl⟩ rfl hl.1 rfl (Nat.le_of_ble_eq_true rfl) dL_law_1277 ⟨by show cells + 0 ≤ 600000; omega, by show slots + 0 ≤ 7302250; omega⟩) hE (fun H locs hE => ?_)
  have hE := zE_swap hE
  refine lv_aload_n hx hb dL_law_1280 rfl (lv_at hl 2 rfl) ?_
  refine lv_aload_n hx hb dL_law_1281 rfl (lv_at hl 0 rfl) ?_
  refine lv_iload_n hx hb dL_law_1282 rfl (lv_at hl 3 rfl) ?_
  refine lv_iconst (v := 1) hx hb dL_law_1283 (by decide) ?_
  refine lv_iadd hx hb dL_law_1284 ?_
  refine zr_sld S hsc hbl hE.2 (k := 1) (zix i 1 (by decide)) (by omega) hL dL_law_1285 ?_
  refine lv_aload_n hx hb dL_law_1286 rfl (lv_at hl 0 rfl) ?_
  refine lv_iload_n hx hb dL_law_1287 rfl (lv_at hl 3 rfl) ?_
  refine lv_iconst (v := 2) hx hb dL_law_1288 (by decide) ?_
  refine lv_iadd hx hb dL_law_1289 ?_
  refine zr_sld S hsc hbl hE.2 (k := 2) (zix i 2 (by decide)) (by omega) hL dL_law_1290 ?_
  refine lv_aload_n hx hb dL_law_1291 rfl (lv_at hl 0 rfl) ?_
  refine lv_iload_n hx hb dL_law_1292 rfl (lv_at hl 3 rfl) ?_
  refine lv_iconst (v := 3) hx hb dL_law_1293 (by decide) ?_
  refine lv_iadd hx hb dL_law_1294 ?_
  refine zr_sld S hsc hbl hE.2 (k := 3) (zix i 3 (by decide)) (by omega) hL dL_law_1295 ?_
  refine zr_i (zr_runV (As := [.int (xs (i + 1)), .int (xs (i + 2)), .int (xs (i + 3))]) S hX hE (kX8_mark l D tc s.heap.size adM (zws ad tc zshC znnC c1) zq (xs (i + 1)) (xs (i + 2)) (xs (i + 3)) mw r m1 e2) zyX8_mark qm_L_153 zcl_X8 rfl (zm_0 mw) ⟨rfl, rfl⟩ ⟨Nat.le_of_ble_eq_true rfl, Nat.le_of_ble_eq_true rfl⟩ rfl hl.1 rfl (Nat.le_of_ble_eq_true rfl) dL_law_1296 ⟨by show cells + 0 + 0 ≤ 600000; omega, by show slots + 0 + 0 ≤ 7302250; omega⟩) hE (fun H locs hE => ?_)
  have hE := zE_swap hE
  refine lv_icmp_eq (tgt := 1650) hx hb dL_law_1299 (by decide) (fun _ => ?_) (fun c9 => absurd rfl c9)
  refine W.widen (k := cells + 3) (n := slots + 196) (Nat.le_add_right _ _) (Nat.le_add_right _ _) ?_
  exact kk ad c1 m1 _ _ hR2 (rfl) hE
set_option maxHeartbeats 4000000 in
set_option maxRecDepth 100000 in
theorem zl_34 {p : Program} {l : Launch} {e : Env} {s : State} {m : MethodId} {below : List Frame} {meth : Method} {c : Code} {b L : Nat} {xs : Nat → Int32} {D : va_G} {tc : Nat → ClassId} {zq : zz_Q} {q0 : Cond} {Q : State → Prop} (S : CallFix p m c code 4 s #[Value.ref b] (q0 :: zw_tb) RL) (hX : zX s.heap.size D tc zq s) (hsc : va_X b L xs s s.heap) (hbl : b < s.heap.size) {i : Nat} (hi : i + 6 ≤ L) (hL : L ≤ 3072) {ad adM : Nat → Nat} {cw mw : zz_W} (hR : zRel cw mw) {H : Heap} {locs : List Loc} (hE : zE D tc s.heap.size ad zshC znnC (zws adM tc zshM znnM mw) cw s.heap H locs) {ls : Array Slot} (hl : lv_has ls 4 [(0, .ref b), (1, .ref (ad 0)), (2, .ref (adM 0)), (3, .int (nI i))]) {cells slots : Nat} (hc : cells + 3 ≤ 600000) (hs : slots + 196 ≤ 7302250) (kk : ∀ (ad2 : Nat → Nat) (cw2 mw2 : zz_W) (H2 : Heap) (locs2 : List Loc), zRel cw2 mw2 → ad2 0 = ad 0 → zE D tc s.heap.size ad2 zshC znnC (zws adM tc zshM znnM mw2) cw2 s.heap H2 locs2 → W p l e room_1 s m #[Value.ref b] below meth c H2 locs2 (cells + 3) (slots + 196) Q (F0 m 1650 ls [])) : W p l e room_1 s m #[Value.ref b] below meth c H locs cells slots Q (F0 m 1304 ls []) := by
  have hx := S.1
  have hb := S.2.1
  obtain ⟨r, c1, m1, e1, e2, hR2⟩ := s_pour (xs (i + 1)) cw mw hR
  refine lv_aload_n hx hb dL_law_1304 rfl (lv_at hl 1 rfl) ?_
  refine lv_aload_n hx hb dL_law_1305 rfl (lv_at hl 0 rfl) ?_
  refine lv_iload_n hx hb dL_law_1306 rfl (lv_at hl 3 rfl) ?_
  refine lv_iconst (v := 1) hx hb dL_law_1307 (by decide) ?_
  refine lv_iadd hx hb dL_law_1308 ?_
  refine zr_sld S hsc hbl hE.2 (k := 1) (zix i 1 (by decide)) (by omega) hL dL_law_1309 ?_
  refine zr_i (zr_runV (As := [.int (xs (i + 1))]) S hX hE (kX7_pour l D tc s.heap.size ad (zws adM tc zshM znnM mw) zq (xs (i + 1)) cw r c1 e1) zyX7_pour qm_L_154 zcl_X7 rfl (zc_0 cw) ⟨rfl, rfl⟩ ⟨Nat.le_of_ble_eq_true rfl, Nat.le_of_ble_eq_true rfl⟩ rfl hl.1 rfl (Nat.le_of_ble_eq_true rfl) dL_law_1310 ⟨by show cells + 0 ≤ 600000; omega, by show slots + 0 ≤ 7302250; omega⟩) hE (fun H locs hE => ?_)
  have hE := zE_swap hE
  refine lv_aload_n hx hb dL_law_1313 rfl (lv_at hl 2 rfl) ?_
  refine lv_aload_n hx hb dL_law_1314 rfl (lv_at hl 0 rfl) ?_
  refine lv_iload_n hx hb dL_law_1315 rfl (lv_at hl 3 rfl) ?_
  refine lv_iconst (v := 1) hx hb dL_law_1316 (by decide) ?_
  refine lv_iadd hx hb dL_law_1317 ?_
  refine zr_sld S hsc hbl hE.2 (k := 1) (zix i 1 (by decide)) (by omega) hL dL_law_1318 ?_
  refine zr_i (zr_runV (As := [.int (xs (i + 1))]) S hX hE (kX8_pour l D tc s.heap.size adM (zws ad tc zshC znnC c1) zq (xs (i + 1)) mw r m1 e2) zyX8_pour qm_L_157 zcl_X8 rfl (zm_0 mw) ⟨rfl, rfl⟩ ⟨Nat.le_of_ble_eq_true rfl, Nat.le_of_ble_eq_true rfl⟩ rfl hl.1 rfl (Nat.le_of_ble_eq_true rfl) dL_law_1319 ⟨by show cells + 0 + 0 ≤ 600000; omega, by show slots + 0 + 0 ≤ 7302250; omega⟩) hE (fun H locs hE => ?_)
  have hE := zE_swap hE
  refine lv_icmp_eq (tgt := 1650) hx hb dL_law_1322 (by decide) (fun _ => ?_) (fun c9 => absurd rfl c9)
  refine W.widen (k := cells + 3) (n := slots + 196) (Nat.le_add_right _ _) (Nat.le_add_right _ _) ?_
  exact kk ad c1 m1 _ _ hR2 (rfl) hE
set_option maxHeartbeats 4000000 in
set_option maxRecDepth 100000 in
theorem zl_35 {p : Program} {l : Launch} {e : Env} {s : State} {m : MethodId} {below : List Frame} {meth : Method} {c : Code} {b L : Nat} {xs : Nat → Int32} {D : va_G} {tc : Nat → ClassId} {zq : zz_Q} {q0 : Cond} {Q : State → Prop} (S : CallFix p m c code 4 s #[Value.ref b] (q0 :: zw_tb) RL) (hX : zX s.heap.size D tc zq s) (hsc : va_X b L xs s s.heap) (hbl : b < s.heap.size) {i : Nat} (hi : i + 6 ≤ L) (hL : L ≤ 3072) {ad adM : Nat → Nat} {cw mw : zz_W} (hR : zRel cw mw) {H : Heap} {locs : List Loc} (hE : zE D tc s.heap.size ad zshC znnC (zws adM tc zshM znnM mw) cw s.heap H locs) {ls : Array Slot} (hl : lv_has ls 4 [(0, .ref b), (1, .ref (ad 0)), (2, .ref (adM 0)), (3, .int (nI i))]) {cells slots : Nat} (hc : cells + 3 ≤ 600000) (hs : slots + 196 ≤ 7302250) (kk : ∀ (ad2 : Nat → Nat) (cw2 mw2 : zz_W) (H2 : Heap) (locs2 : List Loc), zRel cw2 mw2 → ad2 0 = ad 0 → zE D tc s.heap.size ad2 zshC znnC (zws adM tc zshM znnM mw2) cw2 s.heap H2 locs2 → W p l e room_1 s m #[Value.ref b] below meth c H2 locs2 (cells + 3) (slots + 196) Q (F0 m 1650 ls [])) : W p l e room_1 s m #[Value.ref b] below meth c H locs cells slots Q (F0 m 1327 ls []) := by
  have hx := S.1
  have hb := S.2.1
  obtain ⟨r, c1, m1, e1, e2, hR2⟩ := s_reads (xs (i + 1)) cw mw hR
  refine lv_aload_n hx hb dL_law_1327 rfl (lv_at hl 1 rfl) ?_
  refine lv_aload_n hx hb dL_law_1328 rfl (lv_at hl 0 rfl) ?_
  refine lv_iload_n hx hb dL_law_1329 rfl (lv_at hl 3 rfl) ?_
  refine lv_iconst (v := 1) hx hb dL_law_1330 (by decide) ?_
  refine lv_iadd hx hb dL_law_1331 ?_
  refine zr_sld S hsc hbl hE.2 (k := 1) (zix i 1 (by decide)) (by omega) hL dL_law_1332 ?_
  refine zr_i (zr_runV (As := [.int (xs (i + 1))]) S hX hE (kX7_reads l D tc s.heap.size ad (zws adM tc zshM znnM mw) zq (xs (i + 1)) cw r c1 e1) zyX7_reads qm_L_158 zcl_X7 rfl (zc_0 cw) ⟨rfl, rfl⟩ ⟨Nat.le_of_ble_eq_true rfl, Nat.le_of_ble_eq_true rfl⟩ rfl hl.1 rfl (Nat.le_of_ble_eq_true rfl) dL_law_1333 ⟨by show cells + 0 ≤ 600000; omega, by show slots + 0 ≤ 7302250; omega⟩) hE (fun H locs hE => ?_)
  have hE := zE_swap hE
  refine lv_aload_n hx hb dL_law_1336 rfl (lv_at hl 2 rfl) ?_
  refine lv_aload_n hx hb dL_law_1337 rfl (lv_at hl 0 rfl) ?_
  refine lv_iload_n hx hb dL_law_1338 rfl (lv_at hl 3 rfl) ?_
  refine lv_iconst (v := 1) hx hb dL_law_1339 (by decide) ?_
  refine lv_iadd hx hb dL_law_1340 ?_
  refine zr_sld S hsc hbl hE.2 (k := 1) (zix i 1 (by decide)) (by omega) hL dL_law_1341 ?_
  refine zr_i (zr_runV (As := [.int (xs (i + 1))]) S hX hE (kX8_reads l D tc s.heap.size adM (zws ad tc zshC znnC c1) zq (xs (i + 1)) mw r m1 e2) zyX8_reads qm_L_161 zcl_X8 rfl (zm_0 mw) ⟨rfl, rfl⟩ ⟨Nat.le_of_ble_eq_true rfl, Nat.le_of_ble_eq_true rfl⟩ rfl hl.1 rfl (Nat.le_of_ble_eq_true rfl) dL_law_1342 ⟨by show cells + 0 + 0 ≤ 600000; omega, by show slots + 0 + 0 ≤ 7302250; omega⟩) hE (fun H locs hE => ?_)
  have hE := zE_swap hE
  refine lv_icmp_eq (tgt := 1650) hx hb dL_law_1345 (by decide) (fun _ => ?_) (fun c9 => absurd rfl c9)
  refine W.widen (k := cells + 3) (n := slots + 196) (Nat.le_add_right _ _) (Nat.le_add_right _ _) ?_
  exact kk ad c1 m1 _ _ hR2 (rfl) hE
set_option maxHeartbeats 4000000 in
set_option maxRecDepth 100000 in
theorem zl_36 {p : Program} {l : Launch} {e : Env} {s : State} {m : MethodId} {below : List Frame} {meth : Method} {c : Code} {b L : Nat} {xs : Nat → Int32} {D : va_G} {tc : Nat → ClassId} {zq : zz_Q} {q0 : Cond} {Q : State → Prop} (S : CallFix p m c code 4 s #[Value.ref b] (q0 :: zw_tb) RL) (hX : zX s.heap.size D tc zq s) (hsc : va_X b L xs s s.heap) (hbl : b < s.heap.size) {i : Nat} (hi : i + 6 ≤ L) (hL : L ≤ 3072) {ad adM : Nat → Nat} {cw mw : zz_W} (hR : zRel cw mw) {H : Heap} {locs : List Loc} (hE : zE D tc s.heap.size ad zshC znnC (zws adM tc zshM znnM mw) cw s.heap H locs) {ls : Array Slot} (hl : lv_has ls 4 [(0, .ref b), (1, .ref (ad 0)), (2, .ref (adM 0)), (3, .int (nI i))]) {cells slots : Nat} (hc : cells + 3 ≤ 600000) (hs : slots + 196 ≤ 7302250) (kk : ∀ (ad2 : Nat → Nat) (cw2 mw2 : zz_W) (H2 : Heap) (locs2 : List Loc), zRel cw2 mw2 → ad2 0 = ad 0 → zE D tc s.heap.size ad2 zshC znnC (zws adM tc zshM znnM mw2) cw2 s.heap H2 locs2 → W p l e room_1 s m #[Value.ref b] below meth c H2 locs2 (cells + 3) (slots + 196) Q (F0 m 1650 ls [])) : W p l e room_1 s m #[Value.ref b] below meth c H locs cells slots Q (F0 m 1350 ls []) := by
  have hx := S.1
  have hb := S.2.1
  obtain ⟨r, c1, m1, e1, e2, hR2⟩ := s_copy (xs (i + 1)) (xs (i + 2)) (xs (i + 3)) (xs (i + 4)) (xs (i + 5)) cw mw hR
  refine lv_aload_n hx hb dL_law_1350 rfl (lv_at hl 1 rfl) ?_
  refine lv_aload_n hx hb dL_law_1351 rfl (lv_at hl 0 rfl) ?_
  refine lv_iload_n hx hb dL_law_1352 rfl (lv_at hl 3 rfl) ?_
  refine lv_iconst (v := 1) hx hb dL_law_1353 (by decide) ?_
  refine lv_iadd hx hb dL_law_1354 ?_
  refine zr_sld S hsc hbl hE.2 (k := 1) (zix i 1 (by decide)) (by omega) hL dL_law_1355 ?_
  refine lv_aload_n hx hb dL_law_1356 rfl (lv_at hl 0 rfl) ?_
  refine lv_iload_n hx hb dL_law_1357 rfl (lv_at hl 3 rfl) ?_
  refine lv_iconst (v := 2) hx hb dL_law_1358 (by decide) ?_
  refine lv_iadd hx hb dL_law_1359 ?_
  refine zr_sld S hsc hbl hE.2 (k := 2) (zix i 2 (by decide)) (by omega) hL dL_law_1360 ?_
  refine lv_aload_n hx hb dL_law_1361 rfl (lv_at hl 0 rfl) ?_
  refine lv_iload_n hx hb dL_law_1362 rfl (lv_at hl 3 rfl) ?_
  refine lv_iconst (v := 3) hx hb dL_law_1363 (by decide) ?_
  refine lv_iadd hx hb dL_law_1364 ?_
  refine zr_sld S hsc hbl hE.2 (k := 3) (zix i 3 (by decide)) (by omega) hL dL_law_1365 ?_
  refine lv_aload_n hx hb dL_law_1366 rfl (lv_at hl 0 rfl) ?_
  refine lv_iload_n hx hb dL_law_1367 rfl (lv_at hl 3 rfl) ?_
  refine lv_iconst (v := 4) hx hb dL_law_1368 (by decide) ?_
  refine lv_iadd hx hb dL_law_1369 ?_
  refine zr_sld S hsc hbl hE.2 (k := 4) (zix i 4 (by decide)) (by omega) hL dL_law_1370 ?_
  refine lv_aload_n hx hb dL_law_1371 rfl (lv_at hl 0 rfl) ?_
  refine lv_iload_n hx hb dL_law_1372 rfl (lv_at hl 3 rfl) ?_
  refine lv_iconst (v := 5) hx hb dL_law_1373 (by decide) ?_
  refine lv_iadd hx hb dL_law_1374 ?_
  refine zr_sld S hsc hbl hE.2 (k := 5) (zix i 5 (by decide)) (by omega) hL dL_law_1375 ?_
  refine zr_i (zr_runV (As := [.int (xs (i + 1)), .int (xs (i + 2)), .int (xs (i + 3)), .int (xs (i + 4)), .int (xs (i + 5))]) S hX hE (kX7_copy l D tc s.heap.size ad (zws adM tc zshM znnM mw) zq (xs (i + 1)) (xs (i + 2)) (xs (i + 3)) (xs (i + 4)) (xs (i + 5)) cw r c1 e1) zyX7_copy qm_L_162 zcl_X7 rfl (zc_0 cw) ⟨rfl, rfl⟩ ⟨Nat.le_of_ble_eq_true rfl, Nat.le_of_ble_eq_true rfl⟩ rfl hl.1 rfl (Nat.le_of_ble_eq_true rfl) dL_law_1376 ⟨by show cells + 0 ≤ 600000; omega, by show slots + 0 ≤ 7302250; omega⟩) hE (fun H locs hE => ?_)
  have hE := zE_swap hE
  refine lv_aload_n hx hb dL_law_1379 rfl (lv_at hl 2 rfl) ?_
  refine lv_aload_n hx hb dL_law_1380 rfl (lv_at hl 0 rfl) ?_
  refine lv_iload_n hx hb dL_law_1381 rfl (lv_at hl 3 rfl) ?_
  refine lv_iconst (v := 1) hx hb dL_law_1382 (by decide) ?_
  refine lv_iadd hx hb dL_law_1383 ?_
  refine zr_sld S hsc hbl hE.2 (k := 1) (zix i 1 (by decide)) (by omega) hL dL_law_1384 ?_
  refine lv_aload_n hx hb dL_law_1385 rfl (lv_at hl 0 rfl) ?_
  refine lv_iload_n hx hb dL_law_1386 rfl (lv_at hl 3 rfl) ?_
  refine lv_iconst (v := 2) hx hb dL_law_1387 (by decide) ?_
  refine lv_iadd hx hb dL_law_1388 ?_
  refine zr_sld S hsc hbl hE.2 (k := 2) (zix i 2 (by decide)) (by omega) hL dL_law_1389 ?_
  refine lv_aload_n hx hb dL_law_1390 rfl (lv_at hl 0 rfl) ?_
  refine lv_iload_n hx hb dL_law_1391 rfl (lv_at hl 3 rfl) ?_
  refine lv_iconst (v := 3) hx hb dL_law_1392 (by decide) ?_
  refine lv_iadd hx hb dL_law_1393 ?_
  refine zr_sld S hsc hbl hE.2 (k := 3) (zix i 3 (by decide)) (by omega) hL dL_law_1394 ?_
  refine lv_aload_n hx hb dL_law_1395 rfl (lv_at hl 0 rfl) ?_
  refine lv_iload_n hx hb dL_law_1396 rfl (lv_at hl 3 rfl) ?_
  refine lv_iconst (v := 4) hx hb dL_law_1397 (by decide) ?_
  refine lv_iadd hx hb dL_law_1398 ?_
  refine zr_sld S hsc hbl hE.2 (k := 4) (zix i 4 (by decide)) (by omega) hL dL_law_1399 ?_
  refine lv_aload_n hx hb dL_law_1400 rfl (lv_at hl 0 rfl) ?_
  refine lv_iload_n hx hb dL_law_1401 rfl (lv_at hl 3 rfl) ?_
  refine lv_iconst (v := 5) hx hb dL_law_1402 (by decide) ?_
  refine lv_iadd hx hb dL_law_1403 ?_
  refine zr_sld S hsc hbl hE.2 (k := 5) (zix i 5 (by decide)) (by omega) hL dL_law_1404 ?_
  refine zr_i (zr_runV (As := [.int (xs (i + 1)), .int (xs (i + 2)), .int (xs (i + 3)), .int (xs (i + 4)), .int (xs (i + 5))]) S hX hE (kX8_copy l D tc s.heap.size adM (zws ad tc zshC znnC c1) zq (xs (i + 1)) (xs (i + 2)) (xs (i + 3)) (xs (i + 4)) (xs (i + 5)) mw r m1 e2) zyX8_copy qm_L_166 zcl_X8 rfl (zm_0 mw) ⟨rfl, rfl⟩ ⟨Nat.le_of_ble_eq_true rfl, Nat.le_of_ble_eq_true rfl⟩ rfl hl.1 rfl (Nat.le_of_ble_eq_true rfl) dL_law_1405 ⟨by show cells + 0 + 0 ≤ 600000; omega, by show slots + 0 + 0 ≤ 7302250; omega⟩) hE (fun H locs hE => ?_)
  have hE := zE_swap hE
  refine lv_icmp_eq (tgt := 1650) hx hb dL_law_1408 (by decide) (fun _ => ?_) (fun c9 => absurd rfl c9)
  refine W.widen (k := cells + 3) (n := slots + 196) (Nat.le_add_right _ _) (Nat.le_add_right _ _) ?_
  exact kk ad c1 m1 _ _ hR2 (rfl) hE
set_option maxHeartbeats 4000000 in
set_option maxRecDepth 100000 in
theorem zl_37 {p : Program} {l : Launch} {e : Env} {s : State} {m : MethodId} {below : List Frame} {meth : Method} {c : Code} {b L : Nat} {xs : Nat → Int32} {D : va_G} {tc : Nat → ClassId} {zq : zz_Q} {q0 : Cond} {Q : State → Prop} (S : CallFix p m c code 4 s #[Value.ref b] (q0 :: zw_tb) RL) (hX : zX s.heap.size D tc zq s) (hsc : va_X b L xs s s.heap) (hbl : b < s.heap.size) {i : Nat} (hi : i + 6 ≤ L) (hL : L ≤ 3072) {ad adM : Nat → Nat} {cw mw : zz_W} (hR : zRel cw mw) {H : Heap} {locs : List Loc} (hE : zE D tc s.heap.size ad zshC znnC (zws adM tc zshM znnM mw) cw s.heap H locs) {ls : Array Slot} (hl : lv_has ls 4 [(0, .ref b), (1, .ref (ad 0)), (2, .ref (adM 0)), (3, .int (nI i))]) {cells slots : Nat} (hc : cells + 3 ≤ 600000) (hs : slots + 196 ≤ 7302250) (kk : ∀ (ad2 : Nat → Nat) (cw2 mw2 : zz_W) (H2 : Heap) (locs2 : List Loc), zRel cw2 mw2 → ad2 0 = ad 0 → zE D tc s.heap.size ad2 zshC znnC (zws adM tc zshM znnM mw2) cw2 s.heap H2 locs2 → W p l e room_1 s m #[Value.ref b] below meth c H2 locs2 (cells + 3) (slots + 196) Q (F0 m 1650 ls [])) : W p l e room_1 s m #[Value.ref b] below meth c H locs cells slots Q (F0 m 1413 ls []) := by
  have hx := S.1
  have hb := S.2.1
  obtain ⟨r, c1, m1, e1, e2, hR2⟩ := s_lay (xs (i + 1)) (xs (i + 2)) (xs (i + 3)) cw mw hR
  refine lv_aload_n hx hb dL_law_1413 rfl (lv_at hl 1 rfl) ?_
  refine lv_aload_n hx hb dL_law_1414 rfl (lv_at hl 0 rfl) ?_
  refine lv_iload_n hx hb dL_law_1415 rfl (lv_at hl 3 rfl) ?_
  refine lv_iconst (v := 1) hx hb dL_law_1416 (by decide) ?_
  refine lv_iadd hx hb dL_law_1417 ?_
  refine zr_sld S hsc hbl hE.2 (k := 1) (zix i 1 (by decide)) (by omega) hL dL_law_1418 ?_
  refine lv_aload_n hx hb dL_law_1419 rfl (lv_at hl 0 rfl) ?_
  refine lv_iload_n hx hb dL_law_1420 rfl (lv_at hl 3 rfl) ?_
  refine lv_iconst (v := 2) hx hb dL_law_1421 (by decide) ?_
  refine lv_iadd hx hb dL_law_1422 ?_
  refine zr_sld S hsc hbl hE.2 (k := 2) (zix i 2 (by decide)) (by omega) hL dL_law_1423 ?_
  refine lv_aload_n hx hb dL_law_1424 rfl (lv_at hl 0 rfl) ?_
  refine lv_iload_n hx hb dL_law_1425 rfl (lv_at hl 3 rfl) ?_
  refine lv_iconst (v := 3) hx hb dL_law_1426 (by decide) ?_
  refine lv_iadd hx hb dL_law_1427 ?_
  refine zr_sld S hsc hbl hE.2 (k := 3) (zix i 3 (by decide)) (by omega) hL dL_law_1428 ?_
  refine zr_i (zr_runV (As := [.int (xs (i + 1)), .int (xs (i + 2)), .int (xs (i + 3))]) S hX hE (kX7_lay l D tc s.heap.size ad (zws adM tc zshM znnM mw) zq (xs (i + 1)) (xs (i + 2)) (xs (i + 3)) cw r c1 e1) zyX7_lay qm_L_167 zcl_X7 rfl (zc_0 cw) ⟨rfl, rfl⟩ ⟨Nat.le_of_ble_eq_true rfl, Nat.le_of_ble_eq_true rfl⟩ rfl hl.1 rfl (Nat.le_of_ble_eq_true rfl) dL_law_1429 ⟨by show cells + 0 ≤ 600000; omega, by show slots + 0 ≤ 7302250; omega⟩) hE (fun H locs hE => ?_)
  have hE := zE_swap hE
  refine lv_aload_n hx hb dL_law_1432 rfl (lv_at hl 2 rfl) ?_
  refine lv_aload_n hx hb dL_law_1433 rfl (lv_at hl 0 rfl) ?_
  refine lv_iload_n hx hb dL_law_1434 rfl (lv_at hl 3 rfl) ?_
  refine lv_iconst (v := 1) hx hb dL_law_1435 (by decide) ?_
  refine lv_iadd hx hb dL_law_1436 ?_
  refine zr_sld S hsc hbl hE.2 (k := 1) (zix i 1 (by decide)) (by omega) hL dL_law_1437 ?_
  refine lv_aload_n hx hb dL_law_1438 rfl (lv_at hl 0 rfl) ?_
  refine lv_iload_n hx hb dL_law_1439 rfl (lv_at hl 3 rfl) ?_
  refine lv_iconst (v := 2) hx hb dL_law_1440 (by decide) ?_
  refine lv_iadd hx hb dL_law_1441 ?_
  refine zr_sld S hsc hbl hE.2 (k := 2) (zix i 2 (by decide)) (by omega) hL dL_law_1442 ?_
  refine lv_aload_n hx hb dL_law_1443 rfl (lv_at hl 0 rfl) ?_
  refine lv_iload_n hx hb dL_law_1444 rfl (lv_at hl 3 rfl) ?_
  refine lv_iconst (v := 3) hx hb dL_law_1445 (by decide) ?_
  refine lv_iadd hx hb dL_law_1446 ?_
  refine zr_sld S hsc hbl hE.2 (k := 3) (zix i 3 (by decide)) (by omega) hL dL_law_1447 ?_
  refine zr_i (zr_runV (As := [.int (xs (i + 1)), .int (xs (i + 2)), .int (xs (i + 3))]) S hX hE (kX8_lay l D tc s.heap.size adM (zws ad tc zshC znnC c1) zq (xs (i + 1)) (xs (i + 2)) (xs (i + 3)) mw r m1 e2) zyX8_lay qm_L_170 zcl_X8 rfl (zm_0 mw) ⟨rfl, rfl⟩ ⟨Nat.le_of_ble_eq_true rfl, Nat.le_of_ble_eq_true rfl⟩ rfl hl.1 rfl (Nat.le_of_ble_eq_true rfl) dL_law_1448 ⟨by show cells + 0 + 0 ≤ 600000; omega, by show slots + 0 + 0 ≤ 7302250; omega⟩) hE (fun H locs hE => ?_)
  have hE := zE_swap hE
  refine lv_icmp_eq (tgt := 1650) hx hb dL_law_1451 (by decide) (fun _ => ?_) (fun c9 => absurd rfl c9)
  refine W.widen (k := cells + 3) (n := slots + 196) (Nat.le_add_right _ _) (Nat.le_add_right _ _) ?_
  exact kk ad c1 m1 _ _ hR2 (rfl) hE
set_option maxHeartbeats 4000000 in
set_option maxRecDepth 100000 in
theorem zl_38 {p : Program} {l : Launch} {e : Env} {s : State} {m : MethodId} {below : List Frame} {meth : Method} {c : Code} {b L : Nat} {xs : Nat → Int32} {D : va_G} {tc : Nat → ClassId} {zq : zz_Q} {q0 : Cond} {Q : State → Prop} (S : CallFix p m c code 4 s #[Value.ref b] (q0 :: zw_tb) RL) (hX : zX s.heap.size D tc zq s) (hsc : va_X b L xs s s.heap) (hbl : b < s.heap.size) {i : Nat} (hi : i + 6 ≤ L) (hL : L ≤ 3072) {ad adM : Nat → Nat} {cw mw : zz_W} (hR : zRel cw mw) {H : Heap} {locs : List Loc} (hE : zE D tc s.heap.size ad zshC znnC (zws adM tc zshM znnM mw) cw s.heap H locs) {ls : Array Slot} (hl : lv_has ls 4 [(0, .ref b), (1, .ref (ad 0)), (2, .ref (adM 0)), (3, .int (nI i))]) {cells slots : Nat} (hc : cells + 3 ≤ 600000) (hs : slots + 196 ≤ 7302250) (kk : ∀ (ad2 : Nat → Nat) (cw2 mw2 : zz_W) (H2 : Heap) (locs2 : List Loc), zRel cw2 mw2 → ad2 0 = ad 0 → zE D tc s.heap.size ad2 zshC znnC (zws adM tc zshM znnM mw2) cw2 s.heap H2 locs2 → W p l e room_1 s m #[Value.ref b] below meth c H2 locs2 (cells + 3) (slots + 196) Q (F0 m 1650 ls [])) : W p l e room_1 s m #[Value.ref b] below meth c H locs cells slots Q (F0 m 1456 ls []) := by
  have hx := S.1
  have hb := S.2.1
  obtain ⟨r, c1, m1, e1, e2, hR2⟩ := s_ask (xs (i + 1)) (xs (i + 2)) cw mw hR
  refine lv_aload_n hx hb dL_law_1456 rfl (lv_at hl 1 rfl) ?_
  refine lv_aload_n hx hb dL_law_1457 rfl (lv_at hl 0 rfl) ?_
  refine lv_iload_n hx hb dL_law_1458 rfl (lv_at hl 3 rfl) ?_
  refine lv_iconst (v := 1) hx hb dL_law_1459 (by decide) ?_
  refine lv_iadd hx hb dL_law_1460 ?_
  refine zr_sld S hsc hbl hE.2 (k := 1) (zix i 1 (by decide)) (by omega) hL dL_law_1461 ?_
  refine lv_aload_n hx hb dL_law_1462 rfl (lv_at hl 0 rfl) ?_
  refine lv_iload_n hx hb dL_law_1463 rfl (lv_at hl 3 rfl) ?_
  refine lv_iconst (v := 2) hx hb dL_law_1464 (by decide) ?_
  refine lv_iadd hx hb dL_law_1465 ?_
  refine zr_sld S hsc hbl hE.2 (k := 2) (zix i 2 (by decide)) (by omega) hL dL_law_1466 ?_
  refine zr_i (zr_runV (As := [.int (xs (i + 1)), .int (xs (i + 2))]) S hX hE (kX7_ask l D tc s.heap.size ad (zws adM tc zshM znnM mw) zq (xs (i + 1)) (xs (i + 2)) cw r c1 e1) zyX7_ask qm_L_171 zcl_X7 rfl (zc_0 cw) ⟨rfl, rfl⟩ ⟨Nat.le_of_ble_eq_true rfl, Nat.le_of_ble_eq_true rfl⟩ rfl hl.1 rfl (Nat.le_of_ble_eq_true rfl) dL_law_1467 ⟨by show cells + 0 ≤ 600000; omega, by show slots + 0 ≤ 7302250; omega⟩) hE (fun H locs hE => ?_)
  have hE := zE_swap hE
  refine lv_aload_n hx hb dL_law_1470 rfl (lv_at hl 2 rfl) ?_
  refine lv_aload_n hx hb dL_law_1471 rfl (lv_at hl 0 rfl) ?_
  refine lv_iload_n hx hb dL_law_1472 rfl (lv_at hl 3 rfl) ?_
  refine lv_iconst (v := 1) hx hb dL_law_1473 (by decide) ?_
  refine lv_iadd hx hb dL_law_1474 ?_
  refine zr_sld S hsc hbl hE.2 (k := 1) (zix i 1 (by decide)) (by omega) hL dL_law_1475 ?_
  refine lv_aload_n hx hb dL_law_1476 rfl (lv_at hl 0 rfl) ?_
  refine lv_iload_n hx hb dL_law_1477 rfl (lv_at hl 3 rfl) ?_
  refine lv_iconst (v := 2) hx hb dL_law_1478 (by decide) ?_
  refine lv_iadd hx hb dL_law_1479 ?_
  refine zr_sld S hsc hbl hE.2 (k := 2) (zix i 2 (by decide)) (by omega) hL dL_law_1480 ?_
  refine zr_i (zr_runV (As := [.int (xs (i + 1)), .int (xs (i + 2))]) S hX hE (kX8_ask l D tc s.heap.size adM (zws ad tc zshC znnC c1) zq (xs (i + 1)) (xs (i + 2)) mw r m1 e2) zyX8_ask qm_L_174 zcl_X8 rfl (zm_0 mw) ⟨rfl, rfl⟩ ⟨Nat.le_of_ble_eq_true rfl, Nat.le_of_ble_eq_true rfl⟩ rfl hl.1 rfl (Nat.le_of_ble_eq_true rfl) dL_law_1481 ⟨by show cells + 0 + 0 ≤ 600000; omega, by show slots + 0 + 0 ≤ 7302250; omega⟩) hE (fun H locs hE => ?_)
  have hE := zE_swap hE
  refine lv_icmp_eq (tgt := 1650) hx hb dL_law_1484 (by decide) (fun _ => ?_) (fun c9 => absurd rfl c9)
  refine W.widen (k := cells + 3) (n := slots + 196) (Nat.le_add_right _ _) (Nat.le_add_right _ _) ?_
  exact kk ad c1 m1 _ _ hR2 (rfl) hE
set_option maxHeartbeats 4000000 in
set_option maxRecDepth 100000 in
theorem zl_39 {p : Program} {l : Launch} {e : Env} {s : State} {m : MethodId} {below : List Frame} {meth : Method} {c : Code} {b L : Nat} {xs : Nat → Int32} {D : va_G} {tc : Nat → ClassId} {zq : zz_Q} {q0 : Cond} {Q : State → Prop} (S : CallFix p m c code 4 s #[Value.ref b] (q0 :: zw_tb) RL) (hX : zX s.heap.size D tc zq s) (hsc : va_X b L xs s s.heap) (hbl : b < s.heap.size) {i : Nat} (hi : i + 6 ≤ L) (hL : L ≤ 3072) {ad adM : Nat → Nat} {cw mw : zz_W} (hR : zRel cw mw) {H : Heap} {locs : List Loc} (hE : zE D tc s.heap.size ad zshC znnC (zws adM tc zshM znnM mw) cw s.heap H locs) {ls : Array Slot} (hl : lv_has ls 4 [(0, .ref b), (1, .ref (ad 0)), (2, .ref (adM 0)), (3, .int (nI i))]) {cells slots : Nat} (hc : cells + 3 ≤ 600000) (hs : slots + 196 ≤ 7302250) (kk : ∀ (ad2 : Nat → Nat) (cw2 mw2 : zz_W) (H2 : Heap) (locs2 : List Loc), zRel cw2 mw2 → ad2 0 = ad 0 → zE D tc s.heap.size ad2 zshC znnC (zws adM tc zshM znnM mw2) cw2 s.heap H2 locs2 → W p l e room_1 s m #[Value.ref b] below meth c H2 locs2 (cells + 3) (slots + 196) Q (F0 m 1650 ls [])) : W p l e room_1 s m #[Value.ref b] below meth c H locs cells slots Q (F0 m 1489 ls []) := by
  have hx := S.1
  have hb := S.2.1
  obtain ⟨r, c1, m1, e1, e2, hR2⟩ := s_item (xs (i + 1)) (xs (i + 2)) cw mw hR
  refine lv_aload_n hx hb dL_law_1489 rfl (lv_at hl 1 rfl) ?_
  refine lv_aload_n hx hb dL_law_1490 rfl (lv_at hl 0 rfl) ?_
  refine lv_iload_n hx hb dL_law_1491 rfl (lv_at hl 3 rfl) ?_
  refine lv_iconst (v := 1) hx hb dL_law_1492 (by decide) ?_
  refine lv_iadd hx hb dL_law_1493 ?_
  refine zr_sld S hsc hbl hE.2 (k := 1) (zix i 1 (by decide)) (by omega) hL dL_law_1494 ?_
  refine lv_aload_n hx hb dL_law_1495 rfl (lv_at hl 0 rfl) ?_
  refine lv_iload_n hx hb dL_law_1496 rfl (lv_at hl 3 rfl) ?_
  refine lv_iconst (v := 2) hx hb dL_law_1497 (by decide) ?_
  refine lv_iadd hx hb dL_law_1498 ?_
  refine zr_sld S hsc hbl hE.2 (k := 2) (zix i 2 (by decide)) (by omega) hL dL_law_1499 ?_
  refine zr_i (zr_runV (As := [.int (xs (i + 1)), .int (xs (i + 2))]) S hX hE (kX7_item l D tc s.heap.size ad (zws adM tc zshM znnM mw) zq (xs (i + 1)) (xs (i + 2)) cw r c1 e1) zyX7_item qm_L_175 zcl_X7 rfl (zc_0 cw) ⟨rfl, rfl⟩ ⟨Nat.le_of_ble_eq_true rfl, Nat.le_of_ble_eq_true rfl⟩ rfl hl.1 rfl (Nat.le_of_ble_eq_true rfl) dL_law_1500 ⟨by show cells + 0 ≤ 600000; omega, by show slots + 0 ≤ 7302250; omega⟩) hE (fun H locs hE => ?_)
  have hE := zE_swap hE
  refine lv_aload_n hx hb dL_law_1503 rfl (lv_at hl 2 rfl) ?_
  refine lv_aload_n hx hb dL_law_1504 rfl (lv_at hl 0 rfl) ?_
  refine lv_iload_n hx hb dL_law_1505 rfl (lv_at hl 3 rfl) ?_
  refine lv_iconst (v := 1) hx hb dL_law_1506 (by decide) ?_
  refine lv_iadd hx hb dL_law_1507 ?_
  refine zr_sld S hsc hbl hE.2 (k := 1) (zix i 1 (by decide)) (by omega) hL dL_law_1508 ?_
  refine lv_aload_n hx hb dL_law_1509 rfl (lv_at hl 0 rfl) ?_
  refine lv_iload_n hx hb dL_law_1510 rfl (lv_at hl 3 rfl) ?_
  refine lv_iconst (v := 2) hx hb dL_law_1511 (by decide) ?_
  refine lv_iadd hx hb dL_law_1512 ?_
  refine zr_sld S hsc hbl hE.2 (k := 2) (zix i 2 (by decide)) (by omega) hL dL_law_1513 ?_
  refine zr_i (zr_runV (As := [.int (xs (i + 1)), .int (xs (i + 2))]) S hX hE (kX8_item l D tc s.heap.size adM (zws ad tc zshC znnC c1) zq (xs (i + 1)) (xs (i + 2)) mw r m1 e2) zyX8_item qm_L_178 zcl_X8 rfl (zm_0 mw) ⟨rfl, rfl⟩ ⟨Nat.le_of_ble_eq_true rfl, Nat.le_of_ble_eq_true rfl⟩ rfl hl.1 rfl (Nat.le_of_ble_eq_true rfl) dL_law_1514 ⟨by show cells + 0 + 0 ≤ 600000; omega, by show slots + 0 + 0 ≤ 7302250; omega⟩) hE (fun H locs hE => ?_)
  have hE := zE_swap hE
  refine lv_icmp_eq (tgt := 1650) hx hb dL_law_1517 (by decide) (fun _ => ?_) (fun c9 => absurd rfl c9)
  refine W.widen (k := cells + 3) (n := slots + 196) (Nat.le_add_right _ _) (Nat.le_add_right _ _) ?_
  exact kk ad c1 m1 _ _ hR2 (rfl) hE
set_option maxHeartbeats 4000000 in
set_option maxRecDepth 100000 in
theorem zl_40 {p : Program} {l : Launch} {e : Env} {s : State} {m : MethodId} {below : List Frame} {meth : Method} {c : Code} {b L : Nat} {xs : Nat → Int32} {D : va_G} {tc : Nat → ClassId} {zq : zz_Q} {q0 : Cond} {Q : State → Prop} (S : CallFix p m c code 4 s #[Value.ref b] (q0 :: zw_tb) RL) (hX : zX s.heap.size D tc zq s) (hsc : va_X b L xs s s.heap) (hbl : b < s.heap.size) {i : Nat} (hi : i + 6 ≤ L) (hL : L ≤ 3072) {ad adM : Nat → Nat} {cw mw : zz_W} (hR : zRel cw mw) {H : Heap} {locs : List Loc} (hE : zE D tc s.heap.size ad zshC znnC (zws adM tc zshM znnM mw) cw s.heap H locs) {ls : Array Slot} (hl : lv_has ls 4 [(0, .ref b), (1, .ref (ad 0)), (2, .ref (adM 0)), (3, .int (nI i))]) {cells slots : Nat} (hc : cells + 3 ≤ 600000) (hs : slots + 196 ≤ 7302250) (kk : ∀ (ad2 : Nat → Nat) (cw2 mw2 : zz_W) (H2 : Heap) (locs2 : List Loc), zRel cw2 mw2 → ad2 0 = ad 0 → zE D tc s.heap.size ad2 zshC znnC (zws adM tc zshM znnM mw2) cw2 s.heap H2 locs2 → W p l e room_1 s m #[Value.ref b] below meth c H2 locs2 (cells + 3) (slots + 196) Q (F0 m 1650 ls [])) : W p l e room_1 s m #[Value.ref b] below meth c H locs cells slots Q (F0 m 1522 ls []) := by
  have hx := S.1
  have hb := S.2.1
  obtain ⟨r, c1, m1, e1, e2, hR2⟩ := s_rest (xs (i + 1)) (xs (i + 2)) cw mw hR
  refine lv_aload_n hx hb dL_law_1522 rfl (lv_at hl 1 rfl) ?_
  refine lv_aload_n hx hb dL_law_1523 rfl (lv_at hl 0 rfl) ?_
  refine lv_iload_n hx hb dL_law_1524 rfl (lv_at hl 3 rfl) ?_
  refine lv_iconst (v := 1) hx hb dL_law_1525 (by decide) ?_
  refine lv_iadd hx hb dL_law_1526 ?_
  refine zr_sld S hsc hbl hE.2 (k := 1) (zix i 1 (by decide)) (by omega) hL dL_law_1527 ?_
  refine lv_aload_n hx hb dL_law_1528 rfl (lv_at hl 0 rfl) ?_
  refine lv_iload_n hx hb dL_law_1529 rfl (lv_at hl 3 rfl) ?_
  refine lv_iconst (v := 2) hx hb dL_law_1530 (by decide) ?_
  refine lv_iadd hx hb dL_law_1531 ?_
  refine zr_sld S hsc hbl hE.2 (k := 2) (zix i 2 (by decide)) (by omega) hL dL_law_1532 ?_
  refine zr_i (zr_runV (As := [.int (xs (i + 1)), .int (xs (i + 2))]) S hX hE (kX7_rest l D tc s.heap.size ad (zws adM tc zshM znnM mw) zq (xs (i + 1)) (xs (i + 2)) cw r c1 e1) zyX7_rest qm_L_179 zcl_X7 rfl (zc_0 cw) ⟨rfl, rfl⟩ ⟨Nat.le_of_ble_eq_true rfl, Nat.le_of_ble_eq_true rfl⟩ rfl hl.1 rfl (Nat.le_of_ble_eq_true rfl) dL_law_1533 ⟨by show cells + 0 ≤ 600000; omega, by show slots + 0 ≤ 7302250; omega⟩) hE (fun H locs hE => ?_)
  have hE := zE_swap hE
  refine lv_aload_n hx hb dL_law_1536 rfl (lv_at hl 2 rfl) ?_
  refine lv_aload_n hx hb dL_law_1537 rfl (lv_at hl 0 rfl) ?_
  refine lv_iload_n hx hb dL_law_1538 rfl (lv_at hl 3 rfl) ?_
  refine lv_iconst (v := 1) hx hb dL_law_1539 (by decide) ?_
  refine lv_iadd hx hb dL_law_1540 ?_
  refine zr_sld S hsc hbl hE.2 (k := 1) (zix i 1 (by decide)) (by omega) hL dL_law_1541 ?_
  refine lv_aload_n hx hb dL_law_1542 rfl (lv_at hl 0 rfl) ?_
  refine lv_iload_n hx hb dL_law_1543 rfl (lv_at hl 3 rfl) ?_
  refine lv_iconst (v := 2) hx hb dL_law_1544 (by decide) ?_
  refine lv_iadd hx hb dL_law_1545 ?_
  refine zr_sld S hsc hbl hE.2 (k := 2) (zix i 2 (by decide)) (by omega) hL dL_law_1546 ?_
  refine zr_i (zr_runV (As := [.int (xs (i + 1)), .int (xs (i + 2))]) S hX hE (kX8_rest l D tc s.heap.size adM (zws ad tc zshC znnC c1) zq (xs (i + 1)) (xs (i + 2)) mw r m1 e2) zyX8_rest qm_L_182 zcl_X8 rfl (zm_0 mw) ⟨rfl, rfl⟩ ⟨Nat.le_of_ble_eq_true rfl, Nat.le_of_ble_eq_true rfl⟩ rfl hl.1 rfl (Nat.le_of_ble_eq_true rfl) dL_law_1547 ⟨by show cells + 0 + 0 ≤ 600000; omega, by show slots + 0 + 0 ≤ 7302250; omega⟩) hE (fun H locs hE => ?_)
  have hE := zE_swap hE
  refine lv_icmp_eq (tgt := 1650) hx hb dL_law_1550 (by decide) (fun _ => ?_) (fun c9 => absurd rfl c9)
  refine W.widen (k := cells + 3) (n := slots + 196) (Nat.le_add_right _ _) (Nat.le_add_right _ _) ?_
  exact kk ad c1 m1 _ _ hR2 (rfl) hE
set_option maxHeartbeats 4000000 in
set_option maxRecDepth 100000 in
theorem zl_41 {p : Program} {l : Launch} {e : Env} {s : State} {m : MethodId} {below : List Frame} {meth : Method} {c : Code} {b L : Nat} {xs : Nat → Int32} {D : va_G} {tc : Nat → ClassId} {zq : zz_Q} {q0 : Cond} {Q : State → Prop} (S : CallFix p m c code 4 s #[Value.ref b] (q0 :: zw_tb) RL) (hX : zX s.heap.size D tc zq s) (hsc : va_X b L xs s s.heap) (hbl : b < s.heap.size) {i : Nat} (hi : i + 6 ≤ L) (hL : L ≤ 3072) {ad adM : Nat → Nat} {cw mw : zz_W} (hR : zRel cw mw) {H : Heap} {locs : List Loc} (hE : zE D tc s.heap.size ad zshC znnC (zws adM tc zshM znnM mw) cw s.heap H locs) {ls : Array Slot} (hl : lv_has ls 4 [(0, .ref b), (1, .ref (ad 0)), (2, .ref (adM 0)), (3, .int (nI i))]) {cells slots : Nat} (hc : cells + 3 ≤ 600000) (hs : slots + 196 ≤ 7302250) (kk : ∀ (ad2 : Nat → Nat) (cw2 mw2 : zz_W) (H2 : Heap) (locs2 : List Loc), zRel cw2 mw2 → ad2 0 = ad 0 → zE D tc s.heap.size ad2 zshC znnC (zws adM tc zshM znnM mw2) cw2 s.heap H2 locs2 → W p l e room_1 s m #[Value.ref b] below meth c H2 locs2 (cells + 3) (slots + 196) Q (F0 m 1650 ls [])) : W p l e room_1 s m #[Value.ref b] below meth c H locs cells slots Q (F0 m 1555 ls []) := by
  have hx := S.1
  have hb := S.2.1
  obtain ⟨r, c1, m1, e1, e2, hR2⟩ := s_tell (xs (i + 1)) cw mw hR
  refine lv_aload_n hx hb dL_law_1555 rfl (lv_at hl 1 rfl) ?_
  refine lv_aload_n hx hb dL_law_1556 rfl (lv_at hl 0 rfl) ?_
  refine lv_iload_n hx hb dL_law_1557 rfl (lv_at hl 3 rfl) ?_
  refine lv_iconst (v := 1) hx hb dL_law_1558 (by decide) ?_
  refine lv_iadd hx hb dL_law_1559 ?_
  refine zr_sld S hsc hbl hE.2 (k := 1) (zix i 1 (by decide)) (by omega) hL dL_law_1560 ?_
  refine zr_i (zr_runV (As := [.int (xs (i + 1))]) S hX hE (kX7_tell l D tc s.heap.size ad (zws adM tc zshM znnM mw) zq (xs (i + 1)) cw r c1 e1) zyX7_tell qm_L_183 zcl_X7 rfl (zc_0 cw) ⟨rfl, rfl⟩ ⟨Nat.le_of_ble_eq_true rfl, Nat.le_of_ble_eq_true rfl⟩ rfl hl.1 rfl (Nat.le_of_ble_eq_true rfl) dL_law_1561 ⟨by show cells + 0 ≤ 600000; omega, by show slots + 0 ≤ 7302250; omega⟩) hE (fun H locs hE => ?_)
  have hE := zE_swap hE
  refine lv_aload_n hx hb dL_law_1564 rfl (lv_at hl 2 rfl) ?_
  refine lv_aload_n hx hb dL_law_1565 rfl (lv_at hl 0 rfl) ?_
  refine lv_iload_n hx hb dL_law_1566 rfl (lv_at hl 3 rfl) ?_
  refine lv_iconst (v := 1) hx hb dL_law_1567 (by decide) ?_
  refine lv_iadd hx hb dL_law_1568 ?_
  refine zr_sld S hsc hbl hE.2 (k := 1) (zix i 1 (by decide)) (by omega) hL dL_law_1569 ?_
  refine zr_i (zr_runV (As := [.int (xs (i + 1))]) S hX hE (kX8_tell l D tc s.heap.size adM (zws ad tc zshC znnC c1) zq (xs (i + 1)) mw r m1 e2) zyX8_tell qm_L_186 zcl_X8 rfl (zm_0 mw) ⟨rfl, rfl⟩ ⟨Nat.le_of_ble_eq_true rfl, Nat.le_of_ble_eq_true rfl⟩ rfl hl.1 rfl (Nat.le_of_ble_eq_true rfl) dL_law_1570 ⟨by show cells + 0 + 0 ≤ 600000; omega, by show slots + 0 + 0 ≤ 7302250; omega⟩) hE (fun H locs hE => ?_)
  have hE := zE_swap hE
  refine lv_icmp_eq (tgt := 1650) hx hb dL_law_1573 (by decide) (fun _ => ?_) (fun c9 => absurd rfl c9)
  refine W.widen (k := cells + 3) (n := slots + 196) (Nat.le_add_right _ _) (Nat.le_add_right _ _) ?_
  exact kk ad c1 m1 _ _ hR2 (rfl) hE
set_option maxHeartbeats 4000000 in
set_option maxRecDepth 100000 in
theorem zl_42 {p : Program} {l : Launch} {e : Env} {s : State} {m : MethodId} {below : List Frame} {meth : Method} {c : Code} {b L : Nat} {xs : Nat → Int32} {D : va_G} {tc : Nat → ClassId} {zq : zz_Q} {q0 : Cond} {Q : State → Prop} (S : CallFix p m c code 4 s #[Value.ref b] (q0 :: zw_tb) RL) (hX : zX s.heap.size D tc zq s) (hsc : va_X b L xs s s.heap) (hbl : b < s.heap.size) {i : Nat} (hi : i + 6 ≤ L) (hL : L ≤ 3072) {ad adM : Nat → Nat} {cw mw : zz_W} (hR : zRel cw mw) {H : Heap} {locs : List Loc} (hE : zE D tc s.heap.size ad zshC znnC (zws adM tc zshM znnM mw) cw s.heap H locs) {ls : Array Slot} (hl : lv_has ls 4 [(0, .ref b), (1, .ref (ad 0)), (2, .ref (adM 0)), (3, .int (nI i))]) {cells slots : Nat} (hc : cells + 3 ≤ 600000) (hs : slots + 196 ≤ 7302250) (kk : ∀ (ad2 : Nat → Nat) (cw2 mw2 : zz_W) (H2 : Heap) (locs2 : List Loc), zRel cw2 mw2 → ad2 0 = ad 0 → zE D tc s.heap.size ad2 zshC znnC (zws adM tc zshM znnM mw2) cw2 s.heap H2 locs2 → W p l e room_1 s m #[Value.ref b] below meth c H2 locs2 (cells + 3) (slots + 196) Q (F0 m 1650 ls [])) : W p l e room_1 s m #[Value.ref b] below meth c H locs cells slots Q (F0 m 1578 ls []) := by
  have hx := S.1
  have hb := S.2.1
  obtain ⟨r, c1, m1, e1, e2, hR2⟩ := s_check (xs (i + 1)) cw mw hR
  refine lv_aload_n hx hb dL_law_1578 rfl (lv_at hl 1 rfl) ?_
  refine lv_aload_n hx hb dL_law_1579 rfl (lv_at hl 0 rfl) ?_
  refine lv_iload_n hx hb dL_law_1580 rfl (lv_at hl 3 rfl) ?_
  refine lv_iconst (v := 1) hx hb dL_law_1581 (by decide) ?_
  refine lv_iadd hx hb dL_law_1582 ?_
  refine zr_sld S hsc hbl hE.2 (k := 1) (zix i 1 (by decide)) (by omega) hL dL_law_1583 ?_
  refine zr_i (zr_runV (As := [.int (xs (i + 1))]) S hX hE (kX7_check l D tc s.heap.size ad (zws adM tc zshM znnM mw) zq (xs (i + 1)) cw r c1 e1) zyX7_check qm_L_187 zcl_X7 rfl (zc_0 cw) ⟨rfl, rfl⟩ ⟨Nat.le_of_ble_eq_true rfl, Nat.le_of_ble_eq_true rfl⟩ rfl hl.1 rfl (Nat.le_of_ble_eq_true rfl) dL_law_1584 ⟨by show cells + 0 ≤ 600000; omega, by show slots + 0 ≤ 7302250; omega⟩) hE (fun H locs hE => ?_)
  have hE := zE_swap hE
  refine lv_aload_n hx hb dL_law_1587 rfl (lv_at hl 2 rfl) ?_
  refine lv_aload_n hx hb dL_law_1588 rfl (lv_at hl 0 rfl) ?_
  refine lv_iload_n hx hb dL_law_1589 rfl (lv_at hl 3 rfl) ?_
  refine lv_iconst (v := 1) hx hb dL_law_1590 (by decide) ?_
  refine lv_iadd hx hb dL_law_1591 ?_
  refine zr_sld S hsc hbl hE.2 (k := 1) (zix i 1 (by decide)) (by omega) hL dL_law_1592 ?_
  refine zr_i (zr_runV (As := [.int (xs (i + 1))]) S hX hE (kX8_check l D tc s.heap.size adM (zws ad tc zshC znnC c1) zq (xs (i + 1)) mw r m1 e2) zyX8_check qm_L_190 zcl_X8 rfl (zm_0 mw) ⟨rfl, rfl⟩ ⟨Nat.le_of_ble_eq_true rfl, Nat.le_of_ble_eq_true rfl⟩ rfl hl.1 rfl (Nat.le_of_ble_eq_true rfl) dL_law_1593 ⟨by show cells + 0 + 0 ≤ 600000; omega, by show slots + 0 + 0 ≤ 7302250; omega⟩) hE (fun H locs hE => ?_)
  have hE := zE_swap hE
  refine lv_icmp_eq (tgt := 1650) hx hb dL_law_1596 (by decide) (fun _ => ?_) (fun c9 => absurd rfl c9)
  refine W.widen (k := cells + 3) (n := slots + 196) (Nat.le_add_right _ _) (Nat.le_add_right _ _) ?_
  exact kk ad c1 m1 _ _ hR2 (rfl) hE
set_option maxHeartbeats 4000000 in
set_option maxRecDepth 100000 in
theorem zl_43 {p : Program} {l : Launch} {e : Env} {s : State} {m : MethodId} {below : List Frame} {meth : Method} {c : Code} {b L : Nat} {xs : Nat → Int32} {D : va_G} {tc : Nat → ClassId} {zq : zz_Q} {q0 : Cond} {Q : State → Prop} (S : CallFix p m c code 4 s #[Value.ref b] (q0 :: zw_tb) RL) (hX : zX s.heap.size D tc zq s) (hsc : va_X b L xs s s.heap) (hbl : b < s.heap.size) {i : Nat} (hi : i + 6 ≤ L) (hL : L ≤ 3072) {ad adM : Nat → Nat} {cw mw : zz_W} (hR : zRel cw mw) {H : Heap} {locs : List Loc} (hE : zE D tc s.heap.size ad zshC znnC (zws adM tc zshM znnM mw) cw s.heap H locs) {ls : Array Slot} (hl : lv_has ls 4 [(0, .ref b), (1, .ref (ad 0)), (2, .ref (adM 0)), (3, .int (nI i))]) {cells slots : Nat} (hc : cells + 3 ≤ 600000) (hs : slots + 196 ≤ 7302250) (kk : ∀ (ad2 : Nat → Nat) (cw2 mw2 : zz_W) (H2 : Heap) (locs2 : List Loc), zRel cw2 mw2 → ad2 0 = ad 0 → zE D tc s.heap.size ad2 zshC znnC (zws adM tc zshM znnM mw2) cw2 s.heap H2 locs2 → W p l e room_1 s m #[Value.ref b] below meth c H2 locs2 (cells + 3) (slots + 196) Q (F0 m 1650 ls [])) : W p l e room_1 s m #[Value.ref b] below meth c H locs cells slots Q (F0 m 1601 ls []) := by
  have hx := S.1
  have hb := S.2.1
  obtain ⟨r, c1, m1, e1, e2, hR2⟩ := s_keep cw mw hR
  refine lv_aload_n hx hb dL_law_1601 rfl (lv_at hl 1 rfl) ?_
  refine zr_i (zr_runV (As := []) S hX hE (kX7_keep l D tc s.heap.size ad (zws adM tc zshM znnM mw) zq cw r c1 e1) zyX7_keep qm_L_191 zcl_X7 rfl (zc_0 cw) ⟨rfl, rfl⟩ ⟨Nat.le_of_ble_eq_true rfl, Nat.le_of_ble_eq_true rfl⟩ rfl hl.1 rfl (Nat.le_of_ble_eq_true rfl) dL_law_1602 ⟨by show cells + 0 ≤ 600000; omega, by show slots + 0 ≤ 7302250; omega⟩) hE (fun H locs hE => ?_)
  have hE := zE_swap hE
  refine lv_aload_n hx hb dL_law_1605 rfl (lv_at hl 2 rfl) ?_
  refine zr_i (zr_runV (As := []) S hX hE (kX8_keep l D tc s.heap.size adM (zws ad tc zshC znnC c1) zq mw r m1 e2) zyX8_keep qm_L_194 zcl_X8 rfl (zm_0 mw) ⟨rfl, rfl⟩ ⟨Nat.le_of_ble_eq_true rfl, Nat.le_of_ble_eq_true rfl⟩ rfl hl.1 rfl (Nat.le_of_ble_eq_true rfl) dL_law_1606 ⟨by show cells + 0 + 0 ≤ 600000; omega, by show slots + 0 + 0 ≤ 7302250; omega⟩) hE (fun H locs hE => ?_)
  have hE := zE_swap hE
  refine lv_icmp_eq (tgt := 1650) hx hb dL_law_1609 (by decide) (fun _ => ?_) (fun c9 => absurd rfl c9)
  refine W.widen (k := cells + 3) (n := slots + 196) (Nat.le_add_right _ _) (Nat.le_add_right _ _) ?_
  exact kk ad c1 m1 _ _ hR2 (rfl) hE
set_option maxHeartbeats 4000000 in
set_option maxRecDepth 100000 in
theorem zl_44 {p : Program} {l : Launch} {e : Env} {s : State} {m : MethodId} {below : List Frame} {meth : Method} {c : Code} {b L : Nat} {xs : Nat → Int32} {D : va_G} {tc : Nat → ClassId} {zq : zz_Q} {q0 : Cond} {Q : State → Prop} (S : CallFix p m c code 4 s #[Value.ref b] (q0 :: zw_tb) RL) (hX : zX s.heap.size D tc zq s) (hsc : va_X b L xs s s.heap) (hbl : b < s.heap.size) {i : Nat} (hi : i + 6 ≤ L) (hL : L ≤ 3072) {ad adM : Nat → Nat} {cw mw : zz_W} (hR : zRel cw mw) {H : Heap} {locs : List Loc} (hE : zE D tc s.heap.size ad zshC znnC (zws adM tc zshM znnM mw) cw s.heap H locs) {ls : Array Slot} (hl : lv_has ls 4 [(0, .ref b), (1, .ref (ad 0)), (2, .ref (adM 0)), (3, .int (nI i))]) {cells slots : Nat} (hc : cells + 3 ≤ 600000) (hs : slots + 196 ≤ 7302250) (kk : ∀ (ad2 : Nat → Nat) (cw2 mw2 : zz_W) (H2 : Heap) (locs2 : List Loc), zRel cw2 mw2 → ad2 0 = ad 0 → zE D tc s.heap.size ad2 zshC znnC (zws adM tc zshM znnM mw2) cw2 s.heap H2 locs2 → W p l e room_1 s m #[Value.ref b] below meth c H2 locs2 (cells + 3) (slots + 196) Q (F0 m 1650 ls [])) : W p l e room_1 s m #[Value.ref b] below meth c H locs cells slots Q (F0 m 1614 ls []) := by
  have hx := S.1
  have hb := S.2.1
  obtain ⟨r, c1, m1, e1, e2, hR2⟩ := s_back cw mw hR
  refine lv_aload_n hx hb dL_law_1614 rfl (lv_at hl 1 rfl) ?_
  refine zr_i (zr_runV (As := []) S hX hE (kX7_back l D tc s.heap.size ad (zws adM tc zshM znnM mw) zq cw r c1 e1) zyX7_back qm_L_195 zcl_X7 rfl (zc_0 cw) ⟨rfl, rfl⟩ ⟨Nat.le_of_ble_eq_true rfl, Nat.le_of_ble_eq_true rfl⟩ rfl hl.1 rfl (Nat.le_of_ble_eq_true rfl) dL_law_1615 ⟨by show cells + 0 ≤ 600000; omega, by show slots + 0 ≤ 7302250; omega⟩) hE (fun H locs hE => ?_)
  have hE := zE_swap hE
  refine lv_aload_n hx hb dL_law_1618 rfl (lv_at hl 2 rfl) ?_
  refine zr_i (zr_runV (As := []) S hX hE (kX8_back l D tc s.heap.size adM (zws ad tc zshC znnC c1) zq mw r m1 e2) zyX8_back qm_L_198 zcl_X8 rfl (zm_0 mw) ⟨rfl, rfl⟩ ⟨Nat.le_of_ble_eq_true rfl, Nat.le_of_ble_eq_true rfl⟩ rfl hl.1 rfl (Nat.le_of_ble_eq_true rfl) dL_law_1619 ⟨by show cells + 0 + 0 ≤ 600000; omega, by show slots + 0 + 0 ≤ 7302250; omega⟩) hE (fun H locs hE => ?_)
  have hE := zE_swap hE
  refine lv_icmp_eq (tgt := 1650) hx hb dL_law_1622 (by decide) (fun _ => ?_) (fun c9 => absurd rfl c9)
  refine W.widen (k := cells + 3) (n := slots + 196) (Nat.le_add_right _ _) (Nat.le_add_right _ _) ?_
  exact kk ad c1 m1 _ _ hR2 (rfl) hE
set_option maxHeartbeats 4000000 in
set_option maxRecDepth 100000 in
theorem zl_45 {p : Program} {l : Launch} {e : Env} {s : State} {m : MethodId} {below : List Frame} {meth : Method} {c : Code} {b L : Nat} {xs : Nat → Int32} {D : va_G} {tc : Nat → ClassId} {zq : zz_Q} {q0 : Cond} {Q : State → Prop} (S : CallFix p m c code 4 s #[Value.ref b] (q0 :: zw_tb) RL) (hX : zX s.heap.size D tc zq s) (hsc : va_X b L xs s s.heap) (hbl : b < s.heap.size) {i : Nat} (hi : i + 6 ≤ L) (hL : L ≤ 3072) {ad adM : Nat → Nat} {cw mw : zz_W} (hR : zRel cw mw) {H : Heap} {locs : List Loc} (hE : zE D tc s.heap.size ad zshC znnC (zws adM tc zshM znnM mw) cw s.heap H locs) {ls : Array Slot} (hl : lv_has ls 4 [(0, .ref b), (1, .ref (ad 0)), (2, .ref (adM 0)), (3, .int (nI i))]) {cells slots : Nat} (hc : cells + 3 ≤ 600000) (hs : slots + 196 ≤ 7302250) (kk : ∀ (ad2 : Nat → Nat) (cw2 mw2 : zz_W) (H2 : Heap) (locs2 : List Loc), zRel cw2 mw2 → ad2 0 = ad 0 → zE D tc s.heap.size ad2 zshC znnC (zws adM tc zshM znnM mw2) cw2 s.heap H2 locs2 → W p l e room_1 s m #[Value.ref b] below meth c H2 locs2 (cells + 3) (slots + 196) Q (F0 m 1650 ls [])) : W p l e room_1 s m #[Value.ref b] below meth c H locs cells slots Q (F0 m 1627 ls []) := by
  have hx := S.1
  have hb := S.2.1
  obtain ⟨r, c1, m1, e1, e2, hR2⟩ := s_count (xs (i + 1)) cw mw hR
  refine lv_aload_n hx hb dL_law_1627 rfl (lv_at hl 1 rfl) ?_
  refine lv_aload_n hx hb dL_law_1628 rfl (lv_at hl 0 rfl) ?_
  refine lv_iload_n hx hb dL_law_1629 rfl (lv_at hl 3 rfl) ?_
  refine lv_iconst (v := 1) hx hb dL_law_1630 (by decide) ?_
  refine lv_iadd hx hb dL_law_1631 ?_
  refine zr_sld S hsc hbl hE.2 (k := 1) (zix i 1 (by decide)) (by omega) hL dL_law_1632 ?_
  refine zr_i (zr_runV (As := [.int (xs (i + 1))]) S hX hE (kX7_count l D tc s.heap.size ad (zws adM tc zshM znnM mw) zq (xs (i + 1)) cw r c1 e1) zyX7_count qm_L_199 zcl_X7 rfl (zc_0 cw) ⟨rfl, rfl⟩ ⟨Nat.le_of_ble_eq_true rfl, Nat.le_of_ble_eq_true rfl⟩ rfl hl.1 rfl (Nat.le_of_ble_eq_true rfl) dL_law_1633 ⟨by show cells + 0 ≤ 600000; omega, by show slots + 0 ≤ 7302250; omega⟩) hE (fun H locs hE => ?_)
  have hE := zE_swap hE
  refine lv_aload_n hx hb dL_law_1636 rfl (lv_at hl 2 rfl) ?_
  refine lv_aload_n hx hb dL_law_1637 rfl (lv_at hl 0 rfl) ?_
  refine lv_iload_n hx hb dL_law_1638 rfl (lv_at hl 3 rfl) ?_
  refine lv_iconst (v := 1) hx hb dL_law_1639 (by decide) ?_
  refine lv_iadd hx hb dL_law_1640 ?_
  refine zr_sld S hsc hbl hE.2 (k := 1) (zix i 1 (by decide)) (by omega) hL dL_law_1641 ?_
  refine zr_i (zr_runV (As := [.int (xs (i + 1))]) S hX hE (kX8_count l D tc s.heap.size adM (zws ad tc zshC znnC c1) zq (xs (i + 1)) mw r m1 e2) zyX8_count qm_L_202 zcl_X8 rfl (zm_0 mw) ⟨rfl, rfl⟩ ⟨Nat.le_of_ble_eq_true rfl, Nat.le_of_ble_eq_true rfl⟩ rfl hl.1 rfl (Nat.le_of_ble_eq_true rfl) dL_law_1642 ⟨by show cells + 0 + 0 ≤ 600000; omega, by show slots + 0 + 0 ≤ 7302250; omega⟩) hE (fun H locs hE => ?_)
  have hE := zE_swap hE
  refine lv_icmp_eq (tgt := 1650) hx hb dL_law_1645 (by decide) (fun _ => ?_) (fun c9 => absurd rfl c9)
  refine W.widen (k := cells + 3) (n := slots + 196) (Nat.le_add_right _ _) (Nat.le_add_right _ _) ?_
  exact kk ad c1 m1 _ _ hR2 (rfl) hE
set_option maxHeartbeats 4000000 in
set_option maxRecDepth 100000 in
theorem law_switch {p : Program} {l : Launch} {e : Env} {s : State} {m : MethodId} {below : List Frame} {meth : Method} {c : Code} {b L : Nat} {xs : Nat → Int32} {D : va_G} {tc : Nat → ClassId} {zq : zz_Q} {q0 : Cond} {Q : State → Prop} (S : CallFix p m c code 4 s #[Value.ref b] (q0 :: zw_tb) RL) (hX : zX s.heap.size D tc zq s) (hsc : va_X b L xs s s.heap) (hbl : b < s.heap.size) {i : Nat} (hi : i + 6 ≤ L) (hL : L ≤ 3072) {ad adM : Nat → Nat} {cw mw : zz_W} (hR : zRel cw mw) {H : Heap} {locs : List Loc} (hE : zE D tc s.heap.size ad zshC znnC (zws adM tc zshM znnM mw) cw s.heap H locs) {ls : Array Slot} (hl : lv_has ls 4 [(0, .ref b), (1, .ref (ad 0)), (2, .ref (adM 0)), (3, .int (nI i))]) {cells slots : Nat} (hc : cells + 3 ≤ 600000) (hs : slots + 196 ≤ 7302250) (kk : ∀ (ad2 : Nat → Nat) (cw2 mw2 : zz_W) (H2 : Heap) (locs2 : List Loc), zRel cw2 mw2 → ad2 0 = ad 0 → zE D tc s.heap.size ad2 zshC znnC (zws adM tc zshM znnM mw2) cw2 s.heap H2 locs2 → W p l e room_1 s m #[Value.ref b] below meth c H2 locs2 (cells + 3) (slots + 196) Q (F0 m 1650 ls [])) : W p l e room_1 s m #[Value.ref b] below meth c H locs cells slots Q (F0 m 27 ls []) := by
  have hx := S.1
  have hb := S.2.1
  refine lv_aload_n hx hb dL_law_27 rfl (lv_at hl 0 rfl) ?_
  refine lv_iload_n hx hb dL_law_28 rfl (lv_at hl 3 rfl) ?_
  refine zr_sld S hsc hbl hE.2 (k := 0) rfl (by omega) hL dL_law_29 ?_
  refine lv_bipush (v := 63) hx hb dL_law_30 (by decide) ?_
  refine lv_iand hx hb dL_law_32 ?_
  refine lv_topi (fun x _ => ?_)
  by_cases c0 : x = 0
  · refine lv_tableIn (off := 199) (tgt := 232) hx hb dL_law_33 (by rw [c0]; decide) (by rw [c0]; decide) (by rw [c0]; decide) (by decide) ?_
    exact zl_0 S hX hsc hbl hi hL hR hE hl hc hs kk
  by_cases c1 : x = 1
  · refine lv_tableIn (off := 252) (tgt := 285) hx hb dL_law_33 (by rw [c1]; decide) (by rw [c1]; decide) (by rw [c1]; decide) (by decide) ?_
    exact zl_1 S hX hsc hbl hi hL hR hE hl hc hs kk
  by_cases c2 : x = 2
  · refine lv_tableIn (off := 285) (tgt := 318) hx hb dL_law_33 (by rw [c2]; decide) (by rw [c2]; decide) (by rw [c2]; decide) (by decide) ?_
    exact zl_2 S hX hsc hbl hi hL hR hE hl hc hs kk
  by_cases c3 : x = 3
  · refine lv_tableIn (off := 318) (tgt := 351) hx hb dL_law_33 (by rw [c3]; decide) (by rw [c3]; decide) (by rw [c3]; decide) (by decide) ?_
    exact zl_3 S hX hsc hbl hi hL hR hE hl hc hs kk
  by_cases c4 : x = 4
  · refine lv_tableIn (off := 351) (tgt := 384) hx hb dL_law_33 (by rw [c4]; decide) (by rw [c4]; decide) (by rw [c4]; decide) (by decide) ?_
    exact zl_4 S hX hsc hbl hi hL hR hE hl hc hs kk
  by_cases c5 : x = 5
  · refine lv_tableIn (off := 394) (tgt := 427) hx hb dL_law_33 (by rw [c5]; decide) (by rw [c5]; decide) (by rw [c5]; decide) (by decide) ?_
    exact zl_5 S hX hsc hbl hi hL hR hE hl hc hs kk
  by_cases c6 : x = 6
  · refine lv_tableIn (off := 427) (tgt := 460) hx hb dL_law_33 (by rw [c6]; decide) (by rw [c6]; decide) (by rw [c6]; decide) (by decide) ?_
    exact zl_6 S hX hsc hbl hi hL hR hE hl hc hs kk
  by_cases c7 : x = 7
  · refine lv_tableIn (off := 470) (tgt := 503) hx hb dL_law_33 (by rw [c7]; decide) (by rw [c7]; decide) (by rw [c7]; decide) (by decide) ?_
    exact zl_7 S hX hsc hbl hi hL hR hE hl hc hs kk
  by_cases c8 : x = 8
  · refine lv_tableIn (off := 493) (tgt := 526) hx hb dL_law_33 (by rw [c8]; decide) (by rw [c8]; decide) (by rw [c8]; decide) (by decide) ?_
    exact zl_8 S hX hsc hbl hi hL hR hE hl hc hs kk
  by_cases c9 : x = 9
  · refine lv_tableIn (off := 516) (tgt := 549) hx hb dL_law_33 (by rw [c9]; decide) (by rw [c9]; decide) (by rw [c9]; decide) (by decide) ?_
    exact zl_9 S hX hsc hbl hi hL hR hE hl hc hs kk
  by_cases c10 : x = 10
  · refine lv_tableIn (off := 549) (tgt := 582) hx hb dL_law_33 (by rw [c10]; decide) (by rw [c10]; decide) (by rw [c10]; decide) (by decide) ?_
    exact zl_10 S hX hsc hbl hi hL hR hE hl hc hs kk
  by_cases c11 : x = 11
  · refine lv_tableIn (off := 562) (tgt := 595) hx hb dL_law_33 (by rw [c11]; decide) (by rw [c11]; decide) (by rw [c11]; decide) (by decide) ?_
    exact zl_11 S hX hsc hbl hi hL hR hE hl hc hs kk
  by_cases c12 : x = 12
  · refine lv_tableIn (off := 595) (tgt := 628) hx hb dL_law_33 (by rw [c12]; decide) (by rw [c12]; decide) (by rw [c12]; decide) (by decide) ?_
    exact zl_12 S hX hsc hbl hi hL hR hE hl hc hs kk
  by_cases c13 : x = 13
  · refine lv_tableIn (off := 628) (tgt := 661) hx hb dL_law_33 (by rw [c13]; decide) (by rw [c13]; decide) (by rw [c13]; decide) (by decide) ?_
    exact zl_13 S hX hsc hbl hi hL hR hE hl hc hs kk
  by_cases c14 : x = 14
  · refine lv_tableIn (off := 651) (tgt := 684) hx hb dL_law_33 (by rw [c14]; decide) (by rw [c14]; decide) (by rw [c14]; decide) (by decide) ?_
    exact zl_14 S hX hsc hbl hi hL hR hE hl hc hs kk
  by_cases c15 : x = 15
  · refine lv_tableIn (off := 674) (tgt := 707) hx hb dL_law_33 (by rw [c15]; decide) (by rw [c15]; decide) (by rw [c15]; decide) (by decide) ?_
    exact zl_15 S hX hsc hbl hi hL hR hE hl hc hs kk
  by_cases c16 : x = 16
  · refine lv_tableIn (off := 697) (tgt := 730) hx hb dL_law_33 (by rw [c16]; decide) (by rw [c16]; decide) (by rw [c16]; decide) (by decide) ?_
    exact zl_16 S hX hsc hbl hi hL hR hE hl hc hs kk
  by_cases c17 : x = 17
  · refine lv_tableIn (off := 730) (tgt := 763) hx hb dL_law_33 (by rw [c17]; decide) (by rw [c17]; decide) (by rw [c17]; decide) (by decide) ?_
    exact zl_17 S hX hsc hbl hi hL hR hE hl hc hs kk
  by_cases c18 : x = 18
  · refine lv_tableIn (off := 773) (tgt := 806) hx hb dL_law_33 (by rw [c18]; decide) (by rw [c18]; decide) (by rw [c18]; decide) (by decide) ?_
    exact zl_18 S hX hsc hbl hi hL hR hE hl hc hs kk
  by_cases c19 : x = 19
  · refine lv_tableIn (off := 806) (tgt := 839) hx hb dL_law_33 (by rw [c19]; decide) (by rw [c19]; decide) (by rw [c19]; decide) (by decide) ?_
    exact zl_19 S hX hsc hbl hi hL hR hE hl hc hs kk
  by_cases c20 : x = 20
  · refine lv_tableIn (off := 859) (tgt := 892) hx hb dL_law_33 (by rw [c20]; decide) (by rw [c20]; decide) (by rw [c20]; decide) (by decide) ?_
    exact zl_20 S hX hsc hbl hi hL hR hE hl hc hs kk
  by_cases c21 : x = 21
  · refine lv_tableIn (off := 902) (tgt := 935) hx hb dL_law_33 (by rw [c21]; decide) (by rw [c21]; decide) (by rw [c21]; decide) (by decide) ?_
    exact zl_21 S hX hsc hbl hi hL hR hE hl hc hs kk
  by_cases c22 : x = 22
  · refine lv_tableIn (off := 935) (tgt := 968) hx hb dL_law_33 (by rw [c22]; decide) (by rw [c22]; decide) (by rw [c22]; decide) (by decide) ?_
    exact zl_22 S hX hsc hbl hi hL hR hE hl hc hs kk
  by_cases c23 : x = 23
  · refine lv_tableIn (off := 968) (tgt := 1001) hx hb dL_law_33 (by rw [c23]; decide) (by rw [c23]; decide) (by rw [c23]; decide) (by decide) ?_
    exact zl_23 S hX hsc hbl hi hL hR hE hl hc hs kk
  by_cases c24 : x = 24
  · refine lv_tableIn (off := 981) (tgt := 1014) hx hb dL_law_33 (by rw [c24]; decide) (by rw [c24]; decide) (by rw [c24]; decide) (by decide) ?_
    exact zl_24 S hX hsc hbl hi hL hR hE hl hc hs kk
  by_cases c25 : x = 25
  · refine lv_tableIn (off := 1014) (tgt := 1047) hx hb dL_law_33 (by rw [c25]; decide) (by rw [c25]; decide) (by rw [c25]; decide) (by decide) ?_
    exact zl_25 S hX hsc hbl hi hL hR hE hl hc hs kk
  by_cases c26 : x = 26
  · refine lv_tableIn (off := 1027) (tgt := 1060) hx hb dL_law_33 (by rw [c26]; decide) (by rw [c26]; decide) (by rw [c26]; decide) (by decide) ?_
    exact zl_26 S hX hsc hbl hi hL hR hE hl hc hs kk
  by_cases c27 : x = 27
  · refine lv_tableIn (off := 1050) (tgt := 1083) hx hb dL_law_33 (by rw [c27]; decide) (by rw [c27]; decide) (by rw [c27]; decide) (by decide) ?_
    exact zl_27 S hX hsc hbl hi hL hR hE hl hc hs kk
  by_cases c28 : x = 28
  · refine lv_tableIn (off := 1093) (tgt := 1126) hx hb dL_law_33 (by rw [c28]; decide) (by rw [c28]; decide) (by rw [c28]; decide) (by decide) ?_
    exact zl_28 S hX hsc hbl hi hL hR hE hl hc hs kk
  by_cases c29 : x = 29
  · refine lv_tableIn (off := 1116) (tgt := 1149) hx hb dL_law_33 (by rw [c29]; decide) (by rw [c29]; decide) (by rw [c29]; decide) (by decide) ?_
    exact zl_29 S hX hsc hbl hi hL hR hE hl hc hs kk
  by_cases c30 : x = 30
  · refine lv_tableIn (off := 1129) (tgt := 1162) hx hb dL_law_33 (by rw [c30]; decide) (by rw [c30]; decide) (by rw [c30]; decide) (by decide) ?_
    exact zl_30 S hX hsc hbl hi hL hR hE hl hc hs kk
  by_cases c31 : x = 31
  · refine lv_tableIn (off := 1162) (tgt := 1195) hx hb dL_law_33 (by rw [c31]; decide) (by rw [c31]; decide) (by rw [c31]; decide) (by decide) ?_
    exact zl_31 S hX hsc hbl hi hL hR hE hl hc hs kk
  by_cases c32 : x = 32
  · refine lv_tableIn (off := 1185) (tgt := 1218) hx hb dL_law_33 (by rw [c32]; decide) (by rw [c32]; decide) (by rw [c32]; decide) (by decide) ?_
    exact zl_32 S hX hsc hbl hi hL hR hE hl hc hs kk
  by_cases c33 : x = 33
  · refine lv_tableIn (off := 1228) (tgt := 1261) hx hb dL_law_33 (by rw [c33]; decide) (by rw [c33]; decide) (by rw [c33]; decide) (by decide) ?_
    exact zl_33 S hX hsc hbl hi hL hR hE hl hc hs kk
  by_cases c34 : x = 34
  · refine lv_tableIn (off := 1271) (tgt := 1304) hx hb dL_law_33 (by rw [c34]; decide) (by rw [c34]; decide) (by rw [c34]; decide) (by decide) ?_
    exact zl_34 S hX hsc hbl hi hL hR hE hl hc hs kk
  by_cases c35 : x = 35
  · refine lv_tableIn (off := 1294) (tgt := 1327) hx hb dL_law_33 (by rw [c35]; decide) (by rw [c35]; decide) (by rw [c35]; decide) (by decide) ?_
    exact zl_35 S hX hsc hbl hi hL hR hE hl hc hs kk
  by_cases c36 : x = 36
  · refine lv_tableIn (off := 1317) (tgt := 1350) hx hb dL_law_33 (by rw [c36]; decide) (by rw [c36]; decide) (by rw [c36]; decide) (by decide) ?_
    exact zl_36 S hX hsc hbl hi hL hR hE hl hc hs kk
  by_cases c37 : x = 37
  · refine lv_tableIn (off := 1380) (tgt := 1413) hx hb dL_law_33 (by rw [c37]; decide) (by rw [c37]; decide) (by rw [c37]; decide) (by decide) ?_
    exact zl_37 S hX hsc hbl hi hL hR hE hl hc hs kk
  by_cases c38 : x = 38
  · refine lv_tableIn (off := 1423) (tgt := 1456) hx hb dL_law_33 (by rw [c38]; decide) (by rw [c38]; decide) (by rw [c38]; decide) (by decide) ?_
    exact zl_38 S hX hsc hbl hi hL hR hE hl hc hs kk
  by_cases c39 : x = 39
  · refine lv_tableIn (off := 1456) (tgt := 1489) hx hb dL_law_33 (by rw [c39]; decide) (by rw [c39]; decide) (by rw [c39]; decide) (by decide) ?_
    exact zl_39 S hX hsc hbl hi hL hR hE hl hc hs kk
  by_cases c40 : x = 40
  · refine lv_tableIn (off := 1489) (tgt := 1522) hx hb dL_law_33 (by rw [c40]; decide) (by rw [c40]; decide) (by rw [c40]; decide) (by decide) ?_
    exact zl_40 S hX hsc hbl hi hL hR hE hl hc hs kk
  by_cases c41 : x = 41
  · refine lv_tableIn (off := 1522) (tgt := 1555) hx hb dL_law_33 (by rw [c41]; decide) (by rw [c41]; decide) (by rw [c41]; decide) (by decide) ?_
    exact zl_41 S hX hsc hbl hi hL hR hE hl hc hs kk
  by_cases c42 : x = 42
  · refine lv_tableIn (off := 1545) (tgt := 1578) hx hb dL_law_33 (by rw [c42]; decide) (by rw [c42]; decide) (by rw [c42]; decide) (by decide) ?_
    exact zl_42 S hX hsc hbl hi hL hR hE hl hc hs kk
  by_cases c43 : x = 43
  · refine lv_tableIn (off := 1568) (tgt := 1601) hx hb dL_law_33 (by rw [c43]; decide) (by rw [c43]; decide) (by rw [c43]; decide) (by decide) ?_
    exact zl_43 S hX hsc hbl hi hL hR hE hl hc hs kk
  by_cases c44 : x = 44
  · refine lv_tableIn (off := 1581) (tgt := 1614) hx hb dL_law_33 (by rw [c44]; decide) (by rw [c44]; decide) (by rw [c44]; decide) (by decide) ?_
    exact zl_44 S hX hsc hbl hi hL hR hE hl hc hs kk
  by_cases c45 : x = 45
  · refine lv_tableIn (off := 1594) (tgt := 1627) hx hb dL_law_33 (by rw [c45]; decide) (by rw [c45]; decide) (by rw [c45]; decide) (by decide) ?_
    exact zl_45 S hX hsc hbl hi hL hR hE hl hc hs kk
  refine lv_tableOut (tgt := 1650) hx hb dL_law_33 (by have t0 := lv_neT c0 (a := 0) (by decide); have t1 := lv_neT c1 (a := 1) (by decide); have t2 := lv_neT c2 (a := 2) (by decide); have t3 := lv_neT c3 (a := 3) (by decide); have t4 := lv_neT c4 (a := 4) (by decide); have t5 := lv_neT c5 (a := 5) (by decide); have t6 := lv_neT c6 (a := 6) (by decide); have t7 := lv_neT c7 (a := 7) (by decide); have t8 := lv_neT c8 (a := 8) (by decide); have t9 := lv_neT c9 (a := 9) (by decide); have t10 := lv_neT c10 (a := 10) (by decide); have t11 := lv_neT c11 (a := 11) (by decide); have t12 := lv_neT c12 (a := 12) (by decide); have t13 := lv_neT c13 (a := 13) (by decide); have t14 := lv_neT c14 (a := 14) (by decide); have t15 := lv_neT c15 (a := 15) (by decide); have t16 := lv_neT c16 (a := 16) (by decide); have t17 := lv_neT c17 (a := 17) (by decide); have t18 := lv_neT c18 (a := 18) (by decide); have t19 := lv_neT c19 (a := 19) (by decide); have t20 := lv_neT c20 (a := 20) (by decide); have t21 := lv_neT c21 (a := 21) (by decide); have t22 := lv_neT c22 (a := 22) (by decide); have t23 := lv_neT c23 (a := 23) (by decide); have t24 := lv_neT c24 (a := 24) (by decide); have t25 := lv_neT c25 (a := 25) (by decide); have t26 := lv_neT c26 (a := 26) (by decide); have t27 := lv_neT c27 (a := 27) (by decide); have t28 := lv_neT c28 (a := 28) (by decide); have t29 := lv_neT c29 (a := 29) (by decide); have t30 := lv_neT c30 (a := 30) (by decide); have t31 := lv_neT c31 (a := 31) (by decide); have t32 := lv_neT c32 (a := 32) (by decide); have t33 := lv_neT c33 (a := 33) (by decide); have t34 := lv_neT c34 (a := 34) (by decide); have t35 := lv_neT c35 (a := 35) (by decide); have t36 := lv_neT c36 (a := 36) (by decide); have t37 := lv_neT c37 (a := 37) (by decide); have t38 := lv_neT c38 (a := 38) (by decide); have t39 := lv_neT c39 (a := 39) (by decide); have t40 := lv_neT c40 (a := 40) (by decide); have t41 := lv_neT c41 (a := 41) (by decide); have t42 := lv_neT c42 (a := 42) (by decide); have t43 := lv_neT c43 (a := 43) (by decide); have t44 := lv_neT c44 (a := 44) (by decide); have t45 := lv_neT c45 (a := 45) (by decide); omega) (by decide) ?_
  refine W.widen (k := cells + 3) (n := slots + 196) (Nat.le_add_right _ _) (Nat.le_add_right _ _) ?_
  exact kk ad cw mw _ _ hR rfl hE
set_option maxHeartbeats 4000000 in
set_option maxRecDepth 100000 in
theorem law_loop {p : Program} {l : Launch} {e : Env} {s : State} {m : MethodId} {below : List Frame} {meth : Method} {c : Code} {b L : Nat} {xs : Nat → Int32} {D : va_G} {tc : Nat → ClassId} {zq : zz_Q} {q0 : Cond} (S : CallFix p m c code 4 s #[Value.ref b] (q0 :: zw_tb) RL) (hX : zX s.heap.size D tc zq s) (hsc : va_X b L xs s s.heap) (hbl : b < s.heap.size) (hL : L ≤ 3072) (hr : meth.sig.returnType = ret) (hlk : meth.locks = false) :
    ∀ (n j : Nat), 6 * j ≤ L + 5 → L + 6 ≤ 6 * j + 6 * n → ∀ (ad adM : Nat → Nat) (cw mw : zz_W), zRel cw mw → ∀ (H : Heap) (locs : List Loc), zE D tc s.heap.size ad zshC znnC (zws adM tc zshM znnM mw) cw s.heap H locs → ∀ (ls : Array Slot), lv_has ls 4 [(0, .ref b), (1, .ref (ad 0)), (2, .ref (adM 0)), (3, .int (nI (6 * j)))] → W p l e room_1 s m #[Value.ref b] below meth c H locs (100 + 3 * j) (7000 + 196 * j) (lw_Z below #[Value.ref b] s) (F0 m 18 ls []) := by
  have hx := S.1
  have hb := S.2.1
  intro n
  induction n with
  | zero => intro j h1 h2; exact absurd h2 (by omega)
  | succ n ih =>
    intro j h1 h2 ad adM cw mw hR H locs hE ls hl
    refine lv_iload_n hx hb dL_law_18 rfl (lv_at hl 3 rfl) ?_
    refine lv_aload_n hx hb dL_law_19 rfl (lv_at hl 0 rfl) ?_
    refine va_slen hx hb hsc hbl (Nat.not_le.mpr hbl) hE.2 dL_law_20 ?_
    refine lv_bipush (v := 6) hx hb dL_law_21 (by decide) ?_
    refine lv_isub hx hb dL_law_23 ?_
    have eT : (Int32.ofNat L - 6).toInt = (L : Int) - 6 := by
      have := pk_sub_toInt (a := L) (b := 6) (by omega) (by omega)
      exact this
    have eJ : (nI (6 * j)).toInt = ((6 * j : Nat) : Int) := nI_toInt (by omega)
    refine lv_icmp_gt (tgt := 1656) hx hb dL_law_24 (by decide) (fun c1 => ?_) (fun c1 => ?_)
    · refine lv_iconst (v := 1) hx hb dL_law_1656 (by decide) ?_
      refine va_forget (fun q hq => hE.2.2.2 q hq) ?_
      refine W.widen (k := 600000) (n := 7302250) (by omega) (by omega) ?_
      exact lw_ret hx hb hr hlk dL_law_1657
    · have hi : 6 * j + 6 ≤ L := by
        rw [Int32.lt_iff_toInt_lt, eT, eJ] at c1
        omega
      refine law_switch S hX hsc hbl hi hL hR hE hl (by omega) (by omega) (fun ad2 cw2 mw2 H2 locs2 hR2 h0 hE2 => ?_)
      obtain ⟨x2, ex2⟩ : ∃ y : Int32, y = nI (6 * j) + 6 := ⟨_, rfl⟩
      refine lv_iinc (v := x2) (lv' := [(3, .int x2), (0, .ref b), (1, .ref (ad 0)), (2, .ref (adM 0))]) hx hb dL_law_1650 hl (k := 3) rfl (by rw [ex2]; rfl) (by decide) rfl (fun ls hl => ?_)
      refine lv_goto (tgt := 18) hx hb dL_law_1653 (by decide) ?_
      have hl2 : lv_has ls 4 [(0, .ref b), (1, .ref (ad2 0)), (2, .ref (adM 0)), (3, .int (nI (6 * (j + 1))))] := by
        rw [h0, show nI (6 * (j + 1)) = x2 by rw [ex2, show 6 * (j + 1) = 6 * j + 6 by omega]; exact (zix (6 * j) 6 (by decide)).symm]
        exact lv_sub hl [1, 2, 3, 0] rfl
      have := ih (j + 1) (by omega) (by omega) ad2 adM cw2 mw2 hR2 H2 locs2 hE2 ls hl2
      rw [show 100 + 3 * (j + 1) = 100 + 3 * j + 3 by omega, show 7000 + 196 * (j + 1) = 7000 + 196 * j + 196 by omega] at this
      exact this
