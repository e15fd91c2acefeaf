set_option maxHeartbeats 4000000 in
set_option maxRecDepth 100000 in
theorem kX8_in (l : Launch) (D : va_G) (tc : Nat → ClassId) (lo : Nat) (ad : Nat → Nat) (fr : va_W) (zq : zz_Q) (a1 : Int32) (a2 : Int32) (a3 : Int32) (w : zz_W) (r : Int32) (w_ : zz_W) (h : fX8_in a1 a2 a3 w = some (r, w_)) : zMi l yX8_in cX8_in 3 (some .boolean) { frames := 0, cells := 0, slots := 0, locals := 0 } D tc lo ad zshM znnM fr zq [.int a1, .int a2, .int a3] w r w_ := by
  refine zr_entry (by decide) (Nat.le_of_ble_eq_true rfl) fun p e s m args below meth c ls S hX hr hlk hE hl => ?_
  have S : CallFix p m c cX8_in 3 s args (Cond.code yX8_in cX8_in 3 (some .boolean) :: zw_tb) RX8 := S
  have hx := S.1
  have hb := S.2.1
  have hK := hX.2.1
  have hl : lv_has ls 3 [(0, .int a1), (1, .int a2), (2, .int a3)] := hl
  unfold fX8_in at h
  refine lv_iload_n hx hb dX8_in_0 rfl (lv_at hl 0 rfl) ?_
  refine lv_iload_n hx hb dX8_in_1 rfl (lv_at hl 1 rfl) ?_
  refine lv_icmp_lt (tgt := 14) hx hb dX8_in_2 (by decide) (fun c10001 => ?_) (fun c10001 => ?_)
  · have h := zif c10001 h
    refine lv_iconst (v := 0) hx hb dX8_in_14 (by decide) ?_
    exact zr_zret S hE hr hlk (by decide) h dX8_in_15
  · have h := zif' c10001 h
    refine lv_iload_n hx hb dX8_in_5 rfl (lv_at hl 0 rfl) ?_
    refine lv_iload_n hx hb dX8_in_6 rfl (lv_at hl 2 rfl) ?_
    refine lv_icmp_gt (tgt := 14) hx hb dX8_in_7 (by decide) (fun c10002 => ?_) (fun c10002 => ?_)
    · have h := zif c10002 h
      refine lv_iconst (v := 0) hx hb dX8_in_14 (by decide) ?_
      exact zr_zret S hE hr hlk (by decide) h dX8_in_15
    · have h := zif' c10002 h
      refine lv_iconst (v := 1) hx hb dX8_in_10 (by decide) ?_
      refine lv_goto (tgt := 15) hx hb dX8_in_11 (by decide) ?_
      exact zr_zret S hE hr hlk (by decide) h dX8_in_15
set_option maxHeartbeats 4000000 in
set_option maxRecDepth 100000 in
theorem kX8_isRun (l : Launch) (D : va_G) (tc : Nat → ClassId) (lo : Nat) (ad : Nat → Nat) (fr : va_W) (zq : zz_Q) (a1 : Int32) (w : zz_W) (r : Int32) (w_ : zz_W) (h : fX8_isRun a1 w = some (r, w_)) : zMi l yX8_isRun cX8_isRun 2 (some .boolean) { frames := 1, cells := 0, slots := 0, locals := 22 } D tc lo ad zshM znnM fr zq [.ref (ad 0), .int a1] w r w_ := by
  refine zr_entry (by decide) (Nat.le_of_ble_eq_true rfl) fun p e s m args below meth c ls S hX hr hlk hE hl => ?_
  have S : CallFix p m c cX8_isRun 2 s args (Cond.code yX8_isRun cX8_isRun 2 (some .boolean) :: zw_tb) RX8 := S
  have hx := S.1
  have hb := S.2.1
  have hK := hX.2.1
  have hl : lv_has ls 2 [(0, .ref (ad 0)), (1, .int a1)] := hl
  unfold fX8_isRun at h
  refine lv_iload_n hx hb dX8_isRun_0 rfl (lv_at hl 1 rfl) ?_
  refine lv_iconst (v := 0) hx hb dX8_isRun_1 (by decide) ?_
  refine lv_aload_n hx hb dX8_isRun_2 rfl (lv_at hl 0 rfl) ?_
  refine zr_getA S hK hE zcl_X8 (zm_0 w) 0 (Nat.le_of_ble_eq_true rfl) (q := 1) rfl qf_X8_9 dX8_isRun_3 ?_
  refine lv_iconst (v := 1) hx hb dX8_isRun_6 (by decide) ?_
  obtain ⟨x10001, ex10001, h⟩ := zbdE h
  refine zr_iald S hK hE (zm_1 w) dX8_isRun_7 ex10001 ?_
  refine lv_iconst (v := 1) hx hb dX8_isRun_8 (by decide) ?_
  refine lv_isub hx hb dX8_isRun_9 ?_
  obtain ⟨x10002, w10003, ew10003, h⟩ := zbd2E h
  refine zr_i (zr_runS (As := [.int a1, .int 0, .int (x10001 - 1)]) S hX hE (kX8_in l D tc lo ad fr zq a1 0 (x10001 - 1) w x10002 w10003 ew10003) zyX8_in qm_X8_81 ⟨rfl, rfl⟩ ⟨Nat.le_of_ble_eq_true rfl, Nat.le_of_ble_eq_true rfl⟩ rfl hl.1 rfl (Nat.le_of_ble_eq_true rfl) dX8_isRun_10 ⟨Nat.zero_le _, Nat.zero_le _⟩) hE (fun H locs hE => ?_)
  obtain ⟨x10004, ex10004, h⟩ := zbdE h
  obtain ⟨ezx10004, enx10004⟩ := zboo_in ex10004
  refine zr_topi (congrArg some ezx10004) ?_
  exact zr_zret S hE hr hlk enx10004 h dX8_isRun_13
set_option maxHeartbeats 4000000 in
set_option maxRecDepth 100000 in
theorem kX8_isUnder (l : Launch) (D : va_G) (tc : Nat → ClassId) (lo : Nat) (ad : Nat → Nat) (fr : va_W) (zq : zz_Q) (a1 : Int32) (a2 : Int32) (w : zz_W) (r : Int32) (w_ : zz_W) (h : fX8_isUnder a1 a2 w = some (r, w_)) : zMi l yX8_isUnder cX8_isUnder 2 (some .boolean) { frames := 0, cells := 0, slots := 0, locals := 0 } D tc lo ad zshM znnM fr zq [.int a1, .int a2] w r w_ := by
  refine zr_entry (by decide) (Nat.le_of_ble_eq_true rfl) fun p e s m args below meth c ls S hX hr hlk hE hl => ?_
  have S : CallFix p m c cX8_isUnder 2 s args (Cond.code yX8_isUnder cX8_isUnder 2 (some .boolean) :: zw_tb) RX8 := S
  have hx := S.1
  have hb := S.2.1
  have hK := hX.2.1
  have hl : lv_has ls 2 [(0, .int a1), (1, .int a2)] := hl
  unfold fX8_isUnder at h
  have J19 : ∀ (l0 : Int32) (l1 : Int32) (w : zz_W) (ls : Array Slot) (H : Heap) (locs : List Loc), fX8_isUnder_19 a1 a2 l0 l1 w = some (r, w_) → lv_has ls 2 [(0, .int l0), (1, .int l1)] → zE D tc lo ad zshM znnM fr w s.heap H locs → W p l e { frames := 0, cells := 0, slots := 0, locals := 0 } s m args below meth c H locs 0 0 (zZi D tc lo ad zshM znnM fr below args s r w_) (F0 m 19 ls []) := by
    intro l0 l1 w ls H locs h hl hE
    unfold fX8_isUnder_19 at h
    refine lv_iload_n hx hb dX8_isUnder_19 rfl (lv_at hl 1 rfl) ?_
    refine lv_iconst (v := 2) hx hb dX8_isUnder_20 (by decide) ?_
    refine lv_icmp_ne (tgt := 33) hx hb dX8_isUnder_21 (by decide) (fun c13 => ?_) (fun c13 => ?_)
    · have h := zif' c13 h
      refine lv_iconst (v := 0) hx hb dX8_isUnder_33 (by decide) ?_
      exact zr_zret S hE hr hlk (by decide) h dX8_isUnder_34
    · have h := zif c13 h
      refine lv_iload_n hx hb dX8_isUnder_24 rfl (lv_at hl 0 rfl) ?_
      refine lv_iconst (v := 4) hx hb dX8_isUnder_25 (by decide) ?_
      refine lv_icmp_ne (tgt := 33) hx hb dX8_isUnder_26 (by decide) (fun c14 => ?_) (fun c14 => ?_)
      · have h := zif' c14 h
        refine lv_iconst (v := 0) hx hb dX8_isUnder_33 (by decide) ?_
        exact zr_zret S hE hr hlk (by decide) h dX8_isUnder_34
      · have h := zif c14 h
        refine lv_iconst (v := 1) hx hb dX8_isUnder_29 (by decide) ?_
        refine lv_goto (tgt := 34) hx hb dX8_isUnder_30 (by decide) ?_
        exact zr_zret S hE hr hlk (by decide) h dX8_isUnder_34
  refine lv_iload_n hx hb dX8_isUnder_0 rfl (lv_at hl 1 rfl) ?_
  refine lv_if_eq (tgt := 29) hx hb dX8_isUnder_1 (by decide) (fun c10001 => ?_) (fun c10001 => ?_)
  · have h := zif c10001 h
    refine lv_iconst (v := 1) hx hb dX8_isUnder_29 (by decide) ?_
    refine lv_goto (tgt := 34) hx hb dX8_isUnder_30 (by decide) ?_
    exact zr_zret S hE hr hlk (by decide) h dX8_isUnder_34
  · have h := zif' c10001 h
    refine lv_iload_n hx hb dX8_isUnder_4 rfl (lv_at hl 0 rfl) ?_
    refine lv_iload_n hx hb dX8_isUnder_5 rfl (lv_at hl 1 rfl) ?_
    refine lv_icmp_eq (tgt := 29) hx hb dX8_isUnder_6 (by decide) (fun c10002 => ?_) (fun c10002 => ?_)
    · have h := zif c10002 h
      refine lv_iconst (v := 1) hx hb dX8_isUnder_29 (by decide) ?_
      refine lv_goto (tgt := 34) hx hb dX8_isUnder_30 (by decide) ?_
      exact zr_zret S hE hr hlk (by decide) h dX8_isUnder_34
    · have h := zif' c10002 h
      refine lv_iload_n hx hb dX8_isUnder_9 rfl (lv_at hl 1 rfl) ?_
      refine lv_iconst (v := 1) hx hb dX8_isUnder_10 (by decide) ?_
      refine lv_icmp_ne (tgt := 19) hx hb dX8_isUnder_11 (by decide) (fun c10003 => ?_) (fun c10003 => ?_)
      · have h := zif' c10003 h
        exact J19 a1 a2 w ls _ _ h (lv_sub hl [0, 1] rfl) hE
      · have h := zif c10003 h
        refine lv_iload_n hx hb dX8_isUnder_14 rfl (lv_at hl 0 rfl) ?_
        refine lv_iconst (v := 3) hx hb dX8_isUnder_15 (by decide) ?_
        refine lv_icmp_eq (tgt := 29) hx hb dX8_isUnder_16 (by decide) (fun c10004 => ?_) (fun c10004 => ?_)
        · have h := zif c10004 h
          refine lv_iconst (v := 1) hx hb dX8_isUnder_29 (by decide) ?_
          refine lv_goto (tgt := 34) hx hb dX8_isUnder_30 (by decide) ?_
          exact zr_zret S hE hr hlk (by decide) h dX8_isUnder_34
        · have h := zif' c10004 h
          exact J19 a1 a2 w ls _ _ h (lv_sub hl [0, 1] rfl) hE
set_option maxHeartbeats 4000000 in
set_option maxRecDepth 100000 in
theorem kX8_of (l : Launch) (D : va_G) (tc : Nat → ClassId) (lo : Nat) (ad : Nat → Nat) (fr : va_W) (zq : zz_Q) (a1 : Int32) (a2 : Int32) (w : zz_W) (r : Int32) (w_ : zz_W) (h : fX8_of a1 a2 w = some (r, w_)) : zMi l yX8_of cX8_of 3 (some .int) { frames := 0, cells := 0, slots := 0, locals := 0 } D tc lo ad zshM znnM fr zq [.ref (ad 0), .int a1, .int a2] w r w_ := by
  refine zr_entry (by decide) (Nat.le_of_ble_eq_true rfl) fun p e s m args below meth c ls S hX hr hlk hE hl => ?_
  have S : CallFix p m c cX8_of 3 s args (Cond.code yX8_of cX8_of 3 (some .int) :: zw_tb) RX8 := S
  have hx := S.1
  have hb := S.2.1
  have hK := hX.2.1
  have hl : lv_has ls 3 [(0, .ref (ad 0)), (1, .int a1), (2, .int a2)] := hl
  unfold fX8_of at h
  refine lv_aload_n hx hb dX8_of_0 rfl (lv_at hl 0 rfl) ?_
  refine zr_getA S hK hE zcl_X8 (zm_0 w) 0 (Nat.le_of_ble_eq_true rfl) (q := 1) rfl qf_X8_9 dX8_of_1 ?_
  refine lv_bipush (v := 14) hx hb dX8_of_4 (by decide) ?_
  refine lv_iconst (v := 5) hx hb dX8_of_6 (by decide) ?_
  refine lv_iload_n hx hb dX8_of_7 rfl (lv_at hl 1 rfl) ?_
  refine lv_imul hx hb dX8_of_8 ?_
  refine lv_iadd hx hb dX8_of_9 ?_
  refine lv_iload_n hx hb dX8_of_10 rfl (lv_at hl 2 rfl) ?_
  refine lv_iadd hx hb dX8_of_11 ?_
  obtain ⟨x10001, ex10001, h⟩ := zbdE h
  refine zr_iald S hK hE (zm_1 w) dX8_of_12 ex10001 ?_
  exact zr_iret S hE hr hlk h dX8_of_13
set_option maxHeartbeats 4000000 in
set_option maxRecDepth 100000 in
theorem kX8_as (l : Launch) (D : va_G) (tc : Nat → ClassId) (lo : Nat) (ad : Nat → Nat) (fr : va_W) (zq : zz_Q) (a1 : Int32) (a2 : Int32) (w : zz_W) (r : Int32) (w_ : zz_W) (h : fX8_as a1 a2 w = some (r, w_)) : zMi l yX8_as cX8_as 3 (some .int) { frames := 2, cells := 0, slots := 0, locals := 43 } D tc lo ad zshM znnM fr zq [.ref (ad 0), .int a1, .int a2] w r w_ := by
  refine zr_entry (by decide) (Nat.le_of_ble_eq_true rfl) fun p e s m args below meth c ls S hX hr hlk hE hl => ?_
  have S : CallFix p m c cX8_as 3 s args (Cond.code yX8_as cX8_as 3 (some .int) :: zw_tb) RX8 := S
  have hx := S.1
  have hb := S.2.1
  have hK := hX.2.1
  have hl : lv_has ls 3 [(0, .ref (ad 0)), (1, .int a1), (2, .int a2)] := hl
  unfold fX8_as at h
  refine lv_aload_n hx hb dX8_as_0 rfl (lv_at hl 0 rfl) ?_
  refine lv_iload_n hx hb dX8_as_1 rfl (lv_at hl 1 rfl) ?_
  obtain ⟨x10001, w10002, ew10002, h⟩ := zbd2E h
  refine zr_i (zr_runV (As := [.int a1]) S hX hE (kX8_isRun l D tc lo ad fr zq a1 w x10001 w10002 ew10002) zyX8_isRun qm_X8_121 zcl_X8 rfl (zm_0 w) ⟨rfl, rfl⟩ ⟨Nat.le_of_ble_eq_true rfl, Nat.le_of_ble_eq_true rfl⟩ rfl hl.1 rfl (Nat.le_of_ble_eq_true rfl) dX8_as_2 ⟨Nat.zero_le _, Nat.zero_le _⟩) hE (fun H locs hE => ?_)
  refine lv_if_eq (tgt := 17) hx hb dX8_as_5 (by decide) (fun c10003 => ?_) (fun c10003 => ?_)
  · have h := zif c10003 h
    refine zr_ldc S qc_X8_97 dX8_as_17 ?_
    exact zr_iret S hE hr hlk h dX8_as_19
  · have h := zif' c10003 h
    refine lv_iload_n hx hb dX8_as_8 rfl (lv_at hl 2 rfl) ?_
    refine lv_iconst (v := 0) hx hb dX8_as_9 (by decide) ?_
    refine lv_iconst (v := 5) hx hb dX8_as_10 (by decide) ?_
    obtain ⟨x10004, w10005, ew10005, h⟩ := zbd2E h
    refine zr_i (zr_runS (As := [.int a2, .int 0, .int 5]) S hX hE (kX8_in l D tc lo ad fr zq a2 0 5 w10002 x10004 w10005 ew10005) zyX8_in qm_X8_81 ⟨rfl, rfl⟩ ⟨Nat.le_of_ble_eq_true rfl, Nat.le_of_ble_eq_true rfl⟩ rfl hl.1 rfl (Nat.le_of_ble_eq_true rfl) dX8_as_11 ⟨Nat.zero_le _, Nat.zero_le _⟩) hE (fun H locs hE => ?_)
    refine lv_if_ne (tgt := 20) hx hb dX8_as_14 (by decide) (fun c10006 => ?_) (fun c10006 => ?_)
    · have h := zif' c10006 h
      refine lv_aload_n hx hb dX8_as_20 rfl (lv_at hl 0 rfl) ?_
      refine lv_iload_n hx hb dX8_as_21 rfl (lv_at hl 1 rfl) ?_
      refine lv_iconst (v := 0) hx hb dX8_as_22 (by decide) ?_
      obtain ⟨x10007, w10008, ew10008, h⟩ := zbd2E h
      refine zr_i (zr_runV (As := [.int a1, .int 0]) S hX hE (kX8_of l D tc lo ad fr zq a1 0 w10005 x10007 w10008 ew10008) zyX8_of qm_X8_103 zcl_X8 rfl (zm_0 w10005) ⟨rfl, rfl⟩ ⟨Nat.le_of_ble_eq_true rfl, Nat.le_of_ble_eq_true rfl⟩ rfl hl.1 rfl (Nat.le_of_ble_eq_true rfl) dX8_as_23 ⟨Nat.zero_le _, Nat.zero_le _⟩) hE (fun H locs hE => ?_)
      refine lv_iload_n hx hb dX8_as_26 rfl (lv_at hl 2 rfl) ?_
      obtain ⟨x10009, w10010, ew10010, h⟩ := zbd2E h
      refine zr_i (zr_runS (As := [.int x10007, .int a2]) S hX hE (kX8_isUnder l D tc lo ad fr zq x10007 a2 w10008 x10009 w10010 ew10010) zyX8_isUnder qm_X8_133 ⟨rfl, rfl⟩ ⟨Nat.le_of_ble_eq_true rfl, Nat.le_of_ble_eq_true rfl⟩ rfl hl.1 rfl (Nat.le_of_ble_eq_true rfl) dX8_as_27 ⟨Nat.zero_le _, Nat.zero_le _⟩) hE (fun H locs hE => ?_)
      refine lv_if_eq (tgt := 42) hx hb dX8_as_30 (by decide) (fun c10011 => ?_) (fun c10011 => ?_)
      · have h := zif c10011 h
        refine zr_ldc S qc_X8_136 dX8_as_42 ?_
        exact zr_iret S hE hr hlk h dX8_as_44
      · have h := zif' c10011 h
        refine lv_aload_n hx hb dX8_as_33 rfl (lv_at hl 0 rfl) ?_
        refine lv_iload_n hx hb dX8_as_34 rfl (lv_at hl 1 rfl) ?_
        refine lv_iconst (v := 3) hx hb dX8_as_35 (by decide) ?_
        obtain ⟨x10012, w10013, ew10013, h⟩ := zbd2E h
        refine zr_i (zr_runV (As := [.int a1, .int 3]) S hX hE (kX8_of l D tc lo ad fr zq a1 3 w10010 x10012 w10013 ew10013) zyX8_of qm_X8_103 zcl_X8 rfl (zm_0 w10010) ⟨rfl, rfl⟩ ⟨Nat.le_of_ble_eq_true rfl, Nat.le_of_ble_eq_true rfl⟩ rfl hl.1 rfl (Nat.le_of_ble_eq_true rfl) dX8_as_36 ⟨Nat.zero_le _, Nat.zero_le _⟩) hE (fun H locs hE => ?_)
        refine lv_goto (tgt := 44) hx hb dX8_as_39 (by decide) ?_
        exact zr_iret S hE hr hlk h dX8_as_44
    · have h := zif c10006 h
      refine zr_ldc S qc_X8_97 dX8_as_17 ?_
      exact zr_iret S hE hr hlk h dX8_as_19
set_option maxHeartbeats 4000000 in
set_option maxRecDepth 100000 in
theorem kX8_isSlot (l : Launch) (D : va_G) (tc : Nat → ClassId) (lo : Nat) (ad : Nat → Nat) (fr : va_W) (zq : zz_Q) (a1 : Int32) (w : zz_W) (r : Int32) (w_ : zz_W) (h : fX8_isSlot a1 w = some (r, w_)) : zMi l yX8_isSlot cX8_isSlot 1 (some .boolean) { frames := 1, cells := 0, slots := 0, locals := 22 } D tc lo ad zshM znnM fr zq [.int a1] w r w_ := by
  refine zr_entry (by decide) (Nat.le_of_ble_eq_true rfl) fun p e s m args below meth c ls S hX hr hlk hE hl => ?_
  have S : CallFix p m c cX8_isSlot 1 s args (Cond.code yX8_isSlot cX8_isSlot 1 (some .boolean) :: zw_tb) RX8 := S
  have hx := S.1
  have hb := S.2.1
  have hK := hX.2.1
  have hl : lv_has ls 1 [(0, .int a1)] := hl
  unfold fX8_isSlot at h
  refine lv_iload_n hx hb dX8_isSlot_0 rfl (lv_at hl 0 rfl) ?_
  refine lv_iconst (v := 0) hx hb dX8_isSlot_1 (by decide) ?_
  refine lv_iconst (v := 4) hx hb dX8_isSlot_2 (by decide) ?_
  obtain ⟨x10001, w10002, ew10002, h⟩ := zbd2E h
  refine zr_i (zr_runS (As := [.int a1, .int 0, .int 4]) S hX hE (kX8_in l D tc lo ad fr zq a1 0 4 w x10001 w10002 ew10002) zyX8_in qm_X8_81 ⟨rfl, rfl⟩ ⟨Nat.le_of_ble_eq_true rfl, Nat.le_of_ble_eq_true rfl⟩ rfl hl.1 rfl (Nat.le_of_ble_eq_true rfl) dX8_isSlot_3 ⟨Nat.zero_le _, Nat.zero_le _⟩) hE (fun H locs hE => ?_)
  obtain ⟨x10003, ex10003, h⟩ := zbdE h
  obtain ⟨ezx10003, enx10003⟩ := zboo_in ex10003
  refine zr_topi (congrArg some ezx10003) ?_
  exact zr_zret S hE hr hlk enx10003 h dX8_isSlot_6
set_option maxHeartbeats 4000000 in
set_option maxRecDepth 100000 in
theorem kX8_ask (l : Launch) (D : va_G) (tc : Nat → ClassId) (lo : Nat) (ad : Nat → Nat) (fr : va_W) (zq : zz_Q) (a1 : Int32) (a2 : Int32) (w : zz_W) (r : Int32) (w_ : zz_W) (h : fX8_ask a1 a2 w = some (r, w_)) : zMi l yX8_ask cX8_ask 3 (some .int) { frames := 2, cells := 0, slots := 0, locals := 42 } D tc lo ad zshM znnM fr zq [.ref (ad 0), .int a1, .int a2] w r w_ := by
  refine zr_entry (by decide) (Nat.le_of_ble_eq_true rfl) fun p e s m args below meth c ls S hX hr hlk hE hl => ?_
  have S : CallFix p m c cX8_ask 3 s args (Cond.code yX8_ask cX8_ask 3 (some .int) :: zw_tb) RX8 := S
  have hx := S.1
  have hb := S.2.1
  have hK := hX.2.1
  have hl : lv_has ls 3 [(0, .ref (ad 0)), (1, .int a1), (2, .int a2)] := hl
  unfold fX8_ask at h
  refine lv_iload_n hx hb dX8_ask_0 rfl (lv_at hl 1 rfl) ?_
  obtain ⟨x10001, w10002, ew10002, h⟩ := zbd2E h
  refine zr_i (zr_runS (As := [.int a1]) S hX hE (kX8_isSlot l D tc lo ad fr zq a1 w x10001 w10002 ew10002) zyX8_isSlot qm_X8_292 ⟨rfl, rfl⟩ ⟨Nat.le_of_ble_eq_true rfl, Nat.le_of_ble_eq_true rfl⟩ rfl hl.1 rfl (Nat.le_of_ble_eq_true rfl) dX8_ask_1 ⟨Nat.zero_le _, Nat.zero_le _⟩) hE (fun H locs hE => ?_)
  refine lv_if_eq (tgt := 16) hx hb dX8_ask_4 (by decide) (fun c10003 => ?_) (fun c10003 => ?_)
  · have h := zif c10003 h
    refine zr_ldc S qc_X8_97 dX8_ask_16 ?_
    exact zr_iret S hE hr hlk h dX8_ask_18
  · have h := zif' c10003 h
    refine lv_iload_n hx hb dX8_ask_7 rfl (lv_at hl 2 rfl) ?_
    refine lv_iconst (v := 0) hx hb dX8_ask_8 (by decide) ?_
    refine lv_iconst (v := 5) hx hb dX8_ask_9 (by decide) ?_
    obtain ⟨x10004, w10005, ew10005, h⟩ := zbd2E h
    refine zr_i (zr_runS (As := [.int a2, .int 0, .int 5]) S hX hE (kX8_in l D tc lo ad fr zq a2 0 5 w10002 x10004 w10005 ew10005) zyX8_in qm_X8_81 ⟨rfl, rfl⟩ ⟨Nat.le_of_ble_eq_true rfl, Nat.le_of_ble_eq_true rfl⟩ rfl hl.1 rfl (Nat.le_of_ble_eq_true rfl) dX8_ask_10 ⟨Nat.zero_le _, Nat.zero_le _⟩) hE (fun H locs hE => ?_)
    refine lv_if_ne (tgt := 19) hx hb dX8_ask_13 (by decide) (fun c10006 => ?_) (fun c10006 => ?_)
    · have h := zif' c10006 h
      refine lv_aload_n hx hb dX8_ask_19 rfl (lv_at hl 0 rfl) ?_
      refine zr_getA S hK hE zcl_X8 (zm_0 w10005) 28 (Nat.le_of_ble_eq_true rfl) (q := 18) rfl qf_X8_63 dX8_ask_20 ?_
      refine lv_iload_n hx hb dX8_ask_23 rfl (lv_at hl 1 rfl) ?_
      obtain ⟨x10007, ex10007, h⟩ := zbdE h
      refine zr_iald S hK hE (zm_18 w10005) dX8_ask_24 ex10007 ?_
      refine lv_if_ne (tgt := 31) hx hb dX8_ask_25 (by decide) (fun c10008 => ?_) (fun c10008 => ?_)
      · have h := zif' c10008 h
        refine lv_aload_n hx hb dX8_ask_31 rfl (lv_at hl 0 rfl) ?_
        refine zr_getA S hK hE zcl_X8 (zm_0 w10005) 28 (Nat.le_of_ble_eq_true rfl) (q := 18) rfl qf_X8_63 dX8_ask_32 ?_
        refine lv_iload_n hx hb dX8_ask_35 rfl (lv_at hl 1 rfl) ?_
        obtain ⟨x10009, ex10009, h⟩ := zbdE h
        refine zr_iald S hK hE (zm_18 w10005) dX8_ask_36 ex10009 ?_
        refine lv_iconst (v := 1) hx hb dX8_ask_37 (by decide) ?_
        refine lv_icmp_ne (tgt := 63) hx hb dX8_ask_38 (by decide) (fun c10010 => ?_) (fun c10010 => ?_)
        · have h := zif' c10010 h
          refine zr_ldc S qc_X8_136 dX8_ask_63 ?_
          exact zr_iret S hE hr hlk h dX8_ask_65
        · have h := zif c10010 h
          refine lv_aload_n hx hb dX8_ask_41 rfl (lv_at hl 0 rfl) ?_
          refine zr_getA S hK hE zcl_X8 (zm_0 w10005) 29 (Nat.le_of_ble_eq_true rfl) (q := 19) rfl qf_X8_66 dX8_ask_42 ?_
          refine lv_iload_n hx hb dX8_ask_45 rfl (lv_at hl 1 rfl) ?_
          obtain ⟨x10011, ex10011, h⟩ := zbdE h
          refine zr_iald S hK hE (zm_19 w10005) dX8_ask_46 ex10011 ?_
          refine lv_iload_n hx hb dX8_ask_47 rfl (lv_at hl 2 rfl) ?_
          obtain ⟨x10012, w10013, ew10013, h⟩ := zbd2E h
          refine zr_i (zr_runS (As := [.int x10011, .int a2]) S hX hE (kX8_isUnder l D tc lo ad fr zq x10011 a2 w10005 x10012 w10013 ew10013) zyX8_isUnder qm_X8_133 ⟨rfl, rfl⟩ ⟨Nat.le_of_ble_eq_true rfl, Nat.le_of_ble_eq_true rfl⟩ rfl hl.1 rfl (Nat.le_of_ble_eq_true rfl) dX8_ask_48 ⟨Nat.zero_le _, Nat.zero_le _⟩) hE (fun H locs hE => ?_)
          refine lv_if_eq (tgt := 63) hx hb dX8_ask_51 (by decide) (fun c10014 => ?_) (fun c10014 => ?_)
          · have h := zif c10014 h
            refine zr_ldc S qc_X8_136 dX8_ask_63 ?_
            exact zr_iret S hE hr hlk h dX8_ask_65
          · have h := zif' c10014 h
            refine lv_aload_n hx hb dX8_ask_54 rfl (lv_at hl 0 rfl) ?_
            refine zr_getA S hK hE zcl_X8 (zm_0 w10013) 30 (Nat.le_of_ble_eq_true rfl) (q := 20) rfl qf_X8_69 dX8_ask_55 ?_
            refine lv_iload_n hx hb dX8_ask_58 rfl (lv_at hl 1 rfl) ?_
            obtain ⟨x10015, ex10015, h⟩ := zbdE h
            refine zr_iald S hK hE (zm_20 w10013) dX8_ask_59 ex10015 ?_
            refine lv_goto (tgt := 65) hx hb dX8_ask_60 (by decide) ?_
            exact zr_iret S hE hr hlk h dX8_ask_65
      · have h := zif c10008 h
        refine zr_ldc S qc_X8_200 dX8_ask_28 ?_
        exact zr_iret S hE hr hlk h dX8_ask_30
    · have h := zif c10006 h
      refine zr_ldc S qc_X8_97 dX8_ask_16 ?_
      exact zr_iret S hE hr hlk h dX8_ask_18
set_option maxHeartbeats 4000000 in
set_option maxRecDepth 100000 in
theorem kX8_copyAll (l : Launch) (D : va_G) (tc : Nat → ClassId) (lo : Nat) (ad : Nat → Nat) (fr : va_W) (zq : zz_Q) (a1 : Nat) (a2 : Nat) (w : zz_W) (w_ : zz_W) (h : fX8_copyAll a1 a2 w = some w_) : zMv l yX8_copyAll cX8_copyAll 3 none { frames := 0, cells := 0, slots := 0, locals := 0 } D tc lo ad zshM znnM fr zq [.ref (ad a1), .ref (ad a2)] w w_ := by
  refine zr_entry (by decide) (Nat.le_of_ble_eq_true rfl) fun p e s m args below meth c ls S hX hr hlk hE hl => ?_
  have S : CallFix p m c cX8_copyAll 3 s args (Cond.code yX8_copyAll cX8_copyAll 3 none :: zw_tb) RX8 := S
  have hx := S.1
  have hb := S.2.1
  have hK := hX.2.1
  have hl : lv_has ls 3 [(0, .ref (ad a1)), (1, .ref (ad a2))] := hl
  unfold fX8_copyAll at h
  obtain ⟨hga1, h⟩ := zgrdE h
  obtain ⟨hga2, h⟩ := zgrdE h
  have L2 : ∀ (n : Nat) (l2 : Int32) (w : zz_W) (ls : Array Slot) (H : Heap) (locs : List Loc), fX8_copyAll_2 a1 a2 n l2 w = some w_ → lv_has ls 3 [(0, .ref (ad a1)), (1, .ref (ad a2)), (2, .int l2)] → zE D tc lo ad zshM znnM fr w s.heap H locs → W p l e { frames := 0, cells := 0, slots := 0, locals := 0 } s m args below meth c H locs 0 0 (zZv D tc lo ad zshM znnM fr below args s w_) (F0 m 2 ls []) := by
    intro n2
    induction n2 with
    | zero => intro l2 w ls H locs h hl hE; rw [fX8_copyAll_2] at h; cases h
    | succ n2 ih2 =>
      intro l2 w ls H locs h hl hE
      rw [fX8_copyAll_2] at h
      refine lv_iload_n hx hb dX8_copyAll_2 rfl (lv_at hl 2 rfl) ?_
      refine lv_sipush (v := 1436) hx hb dX8_copyAll_3 (by decide) ?_
      refine lv_icmp_ge (tgt := 21) hx hb dX8_copyAll_6 (by decide) (fun c9 => ?_) (fun c9 => ?_)
      · have h := zif c9 h
        exact zr_vret S hE hr hlk h dX8_copyAll_21
      · have h := zif' c9 h
        refine lv_aload_n hx hb dX8_copyAll_9 rfl (lv_at hl 1 rfl) ?_
        refine lv_iload_n hx hb dX8_copyAll_10 rfl (lv_at hl 2 rfl) ?_
        refine lv_aload_n hx hb dX8_copyAll_11 rfl (lv_at hl 0 rfl) ?_
        refine lv_iload_n hx hb dX8_copyAll_12 rfl (lv_at hl 2 rfl) ?_
        obtain ⟨x10, ex10, h⟩ := zbdE h
        refine zr_iald S hK hE (zc_M hga1 w) dX8_copyAll_13 ex10 ?_
        obtain ⟨w11, ew11, h⟩ := zbdE h
        refine zr_iast S hK hE (zc_M hga2 w) dX8_copyAll_14 ew11 (fun H locs hE => ?_)
        obtain ⟨x12, ex12, h⟩ := zbdE h
        refine lv_iinc (v := x12) (lv' := [(2, .int x12), (0, .ref (ad a1)), (1, .ref (ad a2))]) hx hb dX8_copyAll_15 hl (k := 2) rfl (zinc (k := 1) (by decide) ex12) (by decide) rfl (fun ls hl => ?_)
        refine lv_goto (tgt := 2) hx hb dX8_copyAll_18 (by decide) ?_
        exact ih2 x12 w11 ls _ _ h (lv_sub hl [1, 2, 0] rfl) hE
  refine lv_iconst (v := 0) hx hb dX8_copyAll_0 (by decide) ?_
  refine lv_istore_n (lv' := [(2, .int 0), (0, .ref (ad a1)), (1, .ref (ad a2))]) hx hb dX8_copyAll_1 rfl hl (by decide) rfl (fun ls hl => ?_)
  exact L2 zfuel 0 w ls _ _ h (lv_sub hl [1, 2, 0] rfl) hE
set_option maxHeartbeats 4000000 in
set_option maxRecDepth 100000 in
theorem kX8_back (l : Launch) (D : va_G) (tc : Nat → ClassId) (lo : Nat) (ad : Nat → Nat) (fr : va_W) (zq : zz_Q) (w : zz_W) (r : Int32) (w_ : zz_W) (h : fX8_back w = some (r, w_)) : zMi l yX8_back cX8_back 1 (some .int) { frames := 1, cells := 0, slots := 0, locals := 22 } D tc lo ad zshM znnM fr zq [.ref (ad 0)] w r w_ := by
  refine zr_entry (by decide) (Nat.le_of_ble_eq_true rfl) fun p e s m args below meth c ls S hX hr hlk hE hl => ?_
  have S : CallFix p m c cX8_back 1 s args (Cond.code yX8_back cX8_back 1 (some .int) :: zw_tb) RX8 := S
  have hx := S.1
  have hb := S.2.1
  have hK := hX.2.1
  have hl : lv_has ls 1 [(0, .ref (ad 0))] := hl
  unfold fX8_back at h
  refine lv_aload_n hx hb dX8_back_0 rfl (lv_at hl 0 rfl) ?_
  obtain ⟨x10001, ex10001, h⟩ := zbdE h
  refine zr_getI S hK hE zcl_X8 (zm_0 w) 3 (Nat.le_of_ble_eq_true rfl) rfl qf_X8_298 dX8_back_1 ex10001 ?_
  refine lv_if_ne (tgt := 10) hx hb dX8_back_4 (by decide) (fun c10002 => ?_) (fun c10002 => ?_)
  · have h := zif' c10002 h
    refine lv_aload_n hx hb dX8_back_10 rfl (lv_at hl 0 rfl) ?_
    refine zr_getA S hK hE zcl_X8 (zm_0 w) 1 (Nat.le_of_ble_eq_true rfl) (q := 2) rfl qf_X8_13 dX8_back_11 ?_
    refine lv_aload_n hx hb dX8_back_14 rfl (lv_at hl 0 rfl) ?_
    refine zr_getA S hK hE zcl_X8 (zm_0 w) 0 (Nat.le_of_ble_eq_true rfl) (q := 1) rfl qf_X8_9 dX8_back_15 ?_
    obtain ⟨w10003, ew10003, h⟩ := zbdE h
    refine zr_v (zr_runS (As := [.ref (ad 2), .ref (ad 1)]) S hX hE (kX8_copyAll l D tc lo ad fr zq 2 1 w w10003 ew10003) zyX8_copyAll qm_X8_302 ⟨rfl, rfl⟩ ⟨Nat.le_of_ble_eq_true rfl, Nat.le_of_ble_eq_true rfl⟩ rfl hl.1 rfl (Nat.le_of_ble_eq_true rfl) dX8_back_18 ⟨Nat.zero_le _, Nat.zero_le _⟩) hE (fun H locs hE => ?_)
    refine lv_aload_n hx hb dX8_back_21 rfl (lv_at hl 0 rfl) ?_
    refine zr_getA S hK hE zcl_X8 (zm_0 w10003) 0 (Nat.le_of_ble_eq_true rfl) (q := 1) rfl qf_X8_9 dX8_back_22 ?_
    refine lv_iconst (v := 1) hx hb dX8_back_25 (by decide) ?_
    obtain ⟨x10004, ex10004, h⟩ := zbdE h
    refine zr_iald S hK hE (zm_1 w10003) dX8_back_26 ex10004 ?_
    exact zr_iret S hE hr hlk h dX8_back_27
  · have h := zif c10002 h
    refine zr_ldc S qc_X8_154 dX8_back_7 ?_
    exact zr_iret S hE hr hlk h dX8_back_9
set_option maxHeartbeats 4000000 in
set_option maxRecDepth 100000 in
theorem kX8_becomes (l : Launch) (D : va_G) (tc : Nat → ClassId) (lo : Nat) (ad : Nat → Nat) (fr : va_W) (zq : zz_Q) (a1 : Int32) (a2 : Int32) (w : zz_W) (r : Int32) (w_ : zz_W) (h : fX8_becomes a1 a2 w = some (r, w_)) : zMi l yX8_becomes cX8_becomes 4 (some .int) { frames := 0, cells := 0, slots := 0, locals := 0 } D tc lo ad zshM znnM fr zq [.ref (ad 0), .int a1, .int a2] w r w_ := by
  refine zr_entry (by decide) (Nat.le_of_ble_eq_true rfl) fun p e s m args below meth c ls S hX hr hlk hE hl => ?_
  have S : CallFix p m c cX8_becomes 4 s args (Cond.code yX8_becomes cX8_becomes 4 (some .int) :: zw_tb) RX8 := S
  have hx := S.1
  have hb := S.2.1
  have hK := hX.2.1
  have hl : lv_has ls 4 [(0, .ref (ad 0)), (1, .int a1), (2, .int a2)] := hl
  unfold fX8_becomes at h
  refine lv_aload_n hx hb dX8_becomes_0 rfl (lv_at hl 0 rfl) ?_
  refine zr_getA S hK hE zcl_X8 (zm_0 w) 0 (Nat.le_of_ble_eq_true rfl) (q := 1) rfl qf_X8_9 dX8_becomes_1 ?_
  refine lv_iload_n hx hb dX8_becomes_4 rfl (lv_at hl 1 rfl) ?_
  obtain ⟨x10001, ex10001, h⟩ := zbdE h
  refine zr_iald S hK hE (zm_1 w) dX8_becomes_5 ex10001 ?_
  refine lv_istore_n (lv' := [(3, .int x10001), (0, .ref (ad 0)), (1, .int a1), (2, .int a2)]) hx hb dX8_becomes_6 rfl hl (by decide) rfl (fun ls hl => ?_)
  refine lv_aload_n hx hb dX8_becomes_7 rfl (lv_at hl 1 rfl) ?_
  refine zr_getA S hK hE zcl_X8 (zm_0 w) 0 (Nat.le_of_ble_eq_true rfl) (q := 1) rfl qf_X8_9 dX8_becomes_8 ?_
  refine lv_iload_n hx hb dX8_becomes_11 rfl (lv_at hl 2 rfl) ?_
  refine lv_iload_n hx hb dX8_becomes_12 rfl (lv_at hl 3 rfl) ?_
  obtain ⟨w10002, ew10002, h⟩ := zbdE h
  refine zr_iast S hK hE (zm_1 w) dX8_becomes_13 ew10002 (fun H locs hE => ?_)
  refine lv_iload_n hx hb dX8_becomes_14 rfl (lv_at hl 0 rfl) ?_
  exact zr_iret S hE hr hlk h dX8_becomes_15
set_option maxHeartbeats 4000000 in
set_option maxRecDepth 100000 in
theorem kX8_draw (l : Launch) (D : va_G) (tc : Nat → ClassId) (lo : Nat) (ad : Nat → Nat) (fr : va_W) (zq : zz_Q) (w : zz_W) (r : Int32) (w_ : zz_W) (h : fX8_draw w = some (r, w_)) : zMi l yX8_draw cX8_draw 1 (some .int) { frames := 0, cells := 0, slots := 0, locals := 0 } D tc lo ad zshM znnM fr zq [.ref (ad 0)] w r w_ := by
  refine zr_entry (by decide) (Nat.le_of_ble_eq_true rfl) fun p e s m args below meth c ls S hX hr hlk hE hl => ?_
  have S : CallFix p m c cX8_draw 1 s args (Cond.code yX8_draw cX8_draw 1 (some .int) :: zw_tb) RX8 := S
  have hx := S.1
  have hb := S.2.1
  have hK := hX.2.1
  have hl : lv_has ls 1 [(0, .ref (ad 0))] := hl
  unfold fX8_draw at h
  refine lv_aload_n hx hb dX8_draw_0 rfl (lv_at hl 0 rfl) ?_
  refine zr_getA S hK hE zcl_X8 (zm_0 w) 0 (Nat.le_of_ble_eq_true rfl) (q := 1) rfl qf_X8_9 dX8_draw_1 ?_
  refine lv_iconst (v := 0) hx hb dX8_draw_4 (by decide) ?_
  refine lv_aload_n hx hb dX8_draw_5 rfl (lv_at hl 0 rfl) ?_
  refine zr_getA S hK hE zcl_X8 (zm_0 w) 0 (Nat.le_of_ble_eq_true rfl) (q := 1) rfl qf_X8_9 dX8_draw_6 ?_
  refine lv_iconst (v := 0) hx hb dX8_draw_9 (by decide) ?_
  obtain ⟨x10001, ex10001, h⟩ := zbdE h
  refine zr_iald S hK hE (zm_1 w) dX8_draw_10 ex10001 ?_
  refine zr_ldc S qc_X8_146 dX8_draw_11 ?_
  refine lv_imul hx hb dX8_draw_13 ?_
  refine lv_sipush (v := 12345) hx hb dX8_draw_14 (by decide) ?_
  refine lv_iadd hx hb dX8_draw_17 ?_
  obtain ⟨w10002, ew10002, h⟩ := zbdE h
  refine zr_iast S hK hE (zm_1 w) dX8_draw_18 ew10002 (fun H locs hE => ?_)
  refine lv_aload_n hx hb dX8_draw_19 rfl (lv_at hl 0 rfl) ?_
  refine zr_getA S hK hE zcl_X8 (zm_0 w10002) 0 (Nat.le_of_ble_eq_true rfl) (q := 1) rfl qf_X8_9 dX8_draw_20 ?_
  refine lv_iconst (v := 0) hx hb dX8_draw_23 (by decide) ?_
  obtain ⟨x10003, ex10003, h⟩ := zbdE h
  refine zr_iald S hK hE (zm_1 w10002) dX8_draw_24 ex10003 ?_
  refine lv_bipush (v := 8) hx hb dX8_draw_25 (by decide) ?_
  refine lv_iushr hx hb dX8_draw_27 rfl ?_
  exact zr_iret S hE hr hlk h dX8_draw_28
set_option maxHeartbeats 4000000 in
set_option maxRecDepth 100000 in
theorem kX8_sumOf (l : Launch) (D : va_G) (tc : Nat → ClassId) (lo : Nat) (ad : Nat → Nat) (fr : va_W) (zq : zz_Q) (a1 : Int32) (w : zz_W) (r : Int32) (w_ : zz_W) (h : fX8_sumOf a1 w = some (r, w_)) : zMi l yX8_sumOf cX8_sumOf 4 (some .int) { frames := 1, cells := 0, slots := 0, locals := 22 } D tc lo ad zshM znnM fr zq [.ref (ad 0), .int a1] w r w_ := by
  refine zr_entry (by decide) (Nat.le_of_ble_eq_true rfl) fun p e s m args below meth c ls S hX hr hlk hE hl => ?_
  have S : CallFix p m c cX8_sumOf 4 s args (Cond.code yX8_sumOf cX8_sumOf 4 (some .int) :: zw_tb) RX8 := S
  have hx := S.1
  have hb := S.2.1
  have hK := hX.2.1
  have hl : lv_has ls 4 [(0, .ref (ad 0)), (1, .int a1)] := hl
  unfold fX8_sumOf at h
  have L4 : ∀ (n : Nat) (l1 : Int32) (l2 : Int32) (l3 : Int32) (w : zz_W) (ls : Array Slot) (H : Heap) (locs : List Loc), fX8_sumOf_4 a1 n l1 l2 l3 w = some (r, w_) → lv_has ls 4 [(0, .ref (ad 0)), (1, .int l1), (2, .int l2), (3, .int l3)] → zE D tc lo ad zshM znnM fr w s.heap H locs → W p l e { frames := 1, cells := 0, slots := 0, locals := 22 } s m args below meth c H locs 0 0 (zZi D tc lo ad zshM znnM fr below args s r w_) (F0 m 4 ls []) := by
    intro n4
    induction n4 with
    | zero => intro l1 l2 l3 w ls H locs h hl hE; rw [fX8_sumOf_4] at h; cases h
    | succ n4 ih4 =>
      intro l1 l2 l3 w ls H locs h hl hE
      rw [fX8_sumOf_4] at h
      refine lv_iload_n hx hb dX8_sumOf_4 rfl (lv_at hl 3 rfl) ?_
      refine lv_aload_n hx hb dX8_sumOf_5 rfl (lv_at hl 0 rfl) ?_
      refine zr_getA S hK hE zcl_X8 (zm_0 w) 0 (Nat.le_of_ble_eq_true rfl) (q := 1) rfl qf_X8_9 dX8_sumOf_6 ?_
      refine lv_iconst (v := 1) hx hb dX8_sumOf_9 (by decide) ?_
      obtain ⟨x13, ex13, h⟩ := zbdE h
      refine zr_iald S hK hE (zm_1 w) dX8_sumOf_10 ex13 ?_
      refine lv_icmp_ge (tgt := 29) hx hb dX8_sumOf_11 (by decide) (fun c14 => ?_) (fun c14 => ?_)
      · have h := zif c14 h
        refine lv_iload_n hx hb dX8_sumOf_29 rfl (lv_at hl 2 rfl) ?_
        exact zr_iret S hE hr hlk h dX8_sumOf_30
      · have h := zif' c14 h
        refine lv_iload_n hx hb dX8_sumOf_14 rfl (lv_at hl 2 rfl) ?_
        refine lv_aload_n hx hb dX8_sumOf_15 rfl (lv_at hl 0 rfl) ?_
        refine lv_iload_n hx hb dX8_sumOf_16 rfl (lv_at hl 3 rfl) ?_
        refine lv_iload_n hx hb dX8_sumOf_17 rfl (lv_at hl 1 rfl) ?_
        obtain ⟨x15, w16, ew16, h⟩ := zbd2E h
        refine zr_i (zr_runV (As := [.int l3, .int l1]) S hX hE (kX8_of l D tc lo ad fr zq l3 l1 w x15 w16 ew16) zyX8_of qm_X8_103 zcl_X8 rfl (zm_0 w) ⟨rfl, rfl⟩ ⟨Nat.le_of_ble_eq_true rfl, Nat.le_of_ble_eq_true rfl⟩ rfl hl.1 rfl (Nat.le_of_ble_eq_true rfl) dX8_sumOf_18 ⟨Nat.zero_le _, Nat.zero_le _⟩) hE (fun H locs hE => ?_)
        refine lv_iadd hx hb dX8_sumOf_21 ?_
        obtain ⟨x17, ex17, h⟩ := zbdE h
        refine zr_topi ex17 ?_
        refine lv_istore_n (lv' := [(2, .int x17), (0, .ref (ad 0)), (1, .int l1), (3, .int l3)]) hx hb dX8_sumOf_22 rfl hl (by decide) rfl (fun ls hl => ?_)
        obtain ⟨x18, ex18, h⟩ := zbdE h
        refine lv_iinc (v := x18) (lv' := [(3, .int x18), (2, .int x17), (0, .ref (ad 0)), (1, .int l1)]) hx hb dX8_sumOf_23 hl (k := 3) rfl (zinc (k := 1) (by decide) ex18) (by decide) rfl (fun ls hl => ?_)
        refine lv_goto (tgt := 4) hx hb dX8_sumOf_26 (by decide) ?_
        exact ih4 l1 x17 x18 w16 ls _ _ h (lv_sub hl [2, 3, 1, 0] rfl) hE
  refine lv_iconst (v := 0) hx hb dX8_sumOf_0 (by decide) ?_
  refine lv_istore_n (lv' := [(2, .int 0), (0, .ref (ad 0)), (1, .int a1)]) hx hb dX8_sumOf_1 rfl hl (by decide) rfl (fun ls hl => ?_)
  refine lv_iconst (v := 0) hx hb dX8_sumOf_2 (by decide) ?_
  refine lv_istore_n (lv' := [(3, .int 0), (2, .int 0), (0, .ref (ad 0)), (1, .int a1)]) hx hb dX8_sumOf_3 rfl hl (by decide) rfl (fun ls hl => ?_)
  exact L4 zfuel a1 0 0 w ls _ _ h (lv_sub hl [2, 3, 1, 0] rfl) hE
set_option maxHeartbeats 4000000 in
set_option maxRecDepth 100000 in
theorem kX8_builds (l : Launch) (D : va_G) (tc : Nat → ClassId) (lo : Nat) (ad : Nat → Nat) (fr : va_W) (zq : zz_Q) (w : zz_W) (w_ : zz_W) (h : fX8_builds w = some w_) : zMv l yX8_builds cX8_builds 3 none { frames := 2, cells := 0, slots := 0, locals := 45 } D tc lo ad zshM znnM fr zq [.ref (ad 0)] w w_ := by
  refine zr_entry (by decide) (Nat.le_of_ble_eq_true rfl) fun p e s m args below meth c ls S hX hr hlk hE hl => ?_
  have S : CallFix p m c cX8_builds 3 s args (Cond.code yX8_builds cX8_builds 3 none :: zw_tb) RX8 := S
  have hx := S.1
  have hb := S.2.1
  have hK := hX.2.1
  have hl : lv_has ls 3 [(0, .ref (ad 0))] := hl
  unfold fX8_builds at h
  have L13 : ∀ (n : Nat) (l1 : Int32) (l2 : Int32) (w : zz_W) (ls : Array Slot) (H : Heap) (locs : List Loc), fX8_builds_13 n l1 l2 w = some w_ → lv_has ls 3 [(0, .ref (ad 0)), (1, .int l1), (2, .int l2)] → zE D tc lo ad zshM znnM fr w s.heap H locs → W p l e { frames := 2, cells := 0, slots := 0, locals := 45 } s m args below meth c H locs 0 0 (zZv D tc lo ad zshM znnM fr below args s w_) (F0 m 13 ls []) := by
    intro n13
    induction n13 with
    | zero => intro l1 l2 w ls H locs h hl hE; rw [fX8_builds_13] at h; cases h
    | succ n13 ih13 =>
      intro l1 l2 w ls H locs h hl hE
      rw [fX8_builds_13] at h
      refine lv_iload_n hx hb dX8_builds_13 rfl (lv_at hl 1 rfl) ?_
      refine lv_aload_n hx hb dX8_builds_14 rfl (lv_at hl 0 rfl) ?_
      refine lv_iload_n hx hb dX8_builds_15 rfl (lv_at hl 2 rfl) ?_
      refine lv_iconst (v := 2) hx hb dX8_builds_16 (by decide) ?_
      obtain ⟨x27, w28, ew28, h⟩ := zbd2E h
      refine zr_i (zr_runV (As := [.int l2, .int 2]) S hX hE (kX8_of l D tc lo ad fr zq l2 2 w x27 w28 ew28) zyX8_of qm_X8_103 zcl_X8 rfl (zm_0 w) ⟨rfl, rfl⟩ ⟨Nat.le_of_ble_eq_true rfl, Nat.le_of_ble_eq_true rfl⟩ rfl hl.1 rfl (Nat.le_of_ble_eq_true rfl) dX8_builds_17 ⟨Nat.zero_le _, Nat.zero_le _⟩) hE (fun H locs hE => ?_)
      refine lv_icmp_lt (tgt := 38) hx hb dX8_builds_20 (by decide) (fun c29 => ?_) (fun c29 => ?_)
      · have h := zif c29 h
        refine lv_aload_n hx hb dX8_builds_38 rfl (lv_at hl 0 rfl) ?_
        refine zr_getA S hK hE zcl_X8 (zm_0 w28) 0 (Nat.le_of_ble_eq_true rfl) (q := 1) rfl qf_X8_9 dX8_builds_39 ?_
        refine lv_bipush (v := 12) hx hb dX8_builds_42 (by decide) ?_
        refine lv_iload_n hx hb dX8_builds_44 rfl (lv_at hl 2 rfl) ?_
        obtain ⟨w30, ew30, h⟩ := zbdE h
        refine zr_iast S hK hE (zm_1 w28) dX8_builds_45 ew30 (fun H locs hE => ?_)
        exact zr_vret S hE hr hlk h dX8_builds_46
      · have h := zif' c29 h
        refine lv_iload_n hx hb dX8_builds_23 rfl (lv_at hl 1 rfl) ?_
        refine lv_aload_n hx hb dX8_builds_24 rfl (lv_at hl 0 rfl) ?_
        refine lv_iload_n hx hb dX8_builds_25 rfl (lv_at hl 2 rfl) ?_
        refine lv_iconst (v := 2) hx hb dX8_builds_26 (by decide) ?_
        obtain ⟨x31, w32, ew32, h⟩ := zbd2E h
        refine zr_i (zr_runV (As := [.int l2, .int 2]) S hX hE (kX8_of l D tc lo ad fr zq l2 2 w28 x31 w32 ew32) zyX8_of qm_X8_103 zcl_X8 rfl (zm_0 w28) ⟨rfl, rfl⟩ ⟨Nat.le_of_ble_eq_true rfl, Nat.le_of_ble_eq_true rfl⟩ rfl hl.1 rfl (Nat.le_of_ble_eq_true rfl) dX8_builds_27 ⟨Nat.zero_le _, Nat.zero_le _⟩) hE (fun H locs hE => ?_)
        refine lv_isub hx hb dX8_builds_30 ?_
        obtain ⟨x33, ex33, h⟩ := zbdE h
        refine zr_topi ex33 ?_
        refine lv_istore_n (lv' := [(1, .int x33), (0, .ref (ad 0)), (2, .int l2)]) hx hb dX8_builds_31 rfl hl (by decide) rfl (fun ls hl => ?_)
        obtain ⟨x34, ex34, h⟩ := zbdE h
        refine lv_iinc (v := x34) (lv' := [(2, .int x34), (1, .int x33), (0, .ref (ad 0))]) hx hb dX8_builds_32 hl (k := 2) rfl (zinc (k := 1) (by decide) ex34) (by decide) rfl (fun ls hl => ?_)
        refine lv_goto (tgt := 13) hx hb dX8_builds_35 (by decide) ?_
        exact ih13 x33 x34 w32 ls _ _ h (lv_sub hl [2, 1, 0] rfl) hE
  refine lv_aload_n hx hb dX8_builds_0 rfl (lv_at hl 0 rfl) ?_
  obtain ⟨x10001, w10002, ew10002, h⟩ := zbd2E h
  refine zr_i (zr_runV (As := []) S hX hE (kX8_draw l D tc lo ad fr zq w x10001 w10002 ew10002) zyX8_draw qm_X8_147 zcl_X8 rfl (zm_0 w) ⟨rfl, rfl⟩ ⟨Nat.le_of_ble_eq_true rfl, Nat.le_of_ble_eq_true rfl⟩ rfl hl.1 rfl (Nat.le_of_ble_eq_true rfl) dX8_builds_1 ⟨Nat.zero_le _, Nat.zero_le _⟩) hE (fun H locs hE => ?_)
  refine lv_aload_n hx hb dX8_builds_4 rfl (lv_at hl 0 rfl) ?_
  refine lv_iconst (v := 2) hx hb dX8_builds_5 (by decide) ?_
  obtain ⟨x10003, w10004, ew10004, h⟩ := zbd2E h
  refine zr_i (zr_runV (As := [.int 2]) S hX hE (kX8_sumOf l D tc lo ad fr zq 2 w10002 x10003 w10004 ew10004) zyX8_sumOf qm_X8_151 zcl_X8 rfl (zm_0 w10002) ⟨rfl, rfl⟩ ⟨Nat.le_of_ble_eq_true rfl, Nat.le_of_ble_eq_true rfl⟩ rfl hl.1 rfl (Nat.le_of_ble_eq_true rfl) dX8_builds_6 ⟨Nat.zero_le _, Nat.zero_le _⟩) hE (fun H locs hE => ?_)
  obtain ⟨x10005, ex10005, h⟩ := zbdE h
  refine zr_irem hx hb dX8_builds_9 ex10005 ?_
  refine lv_istore_n (lv' := [(1, .int x10005), (0, .ref (ad 0))]) hx hb dX8_builds_10 rfl hl (by decide) rfl (fun ls hl => ?_)
  refine lv_iconst (v := 0) hx hb dX8_builds_11 (by decide) ?_
  refine lv_istore_n (lv' := [(2, .int 0), (1, .int x10005), (0, .ref (ad 0))]) hx hb dX8_builds_12 rfl hl (by decide) rfl (fun ls hl => ?_)
  exact L13 zfuel x10005 0 w10004 ls _ _ h (lv_sub hl [2, 1, 0] rfl) hE
set_option maxHeartbeats 4000000 in
set_option maxRecDepth 100000 in
theorem kX8_within (l : Launch) (D : va_G) (tc : Nat → ClassId) (lo : Nat) (ad : Nat → Nat) (fr : va_W) (zq : zz_Q) (a1 : Int32) (a2 : Int32) (a3 : Int32) (w : zz_W) (r : Int32) (w_ : zz_W) (h : fX8_within a1 a2 a3 w = some (r, w_)) : zMi l yX8_within cX8_within 3 (some .int) { frames := 0, cells := 0, slots := 0, locals := 0 } D tc lo ad zshM znnM fr zq [.int a1, .int a2, .int a3] w r w_ := by
  refine zr_entry (by decide) (Nat.le_of_ble_eq_true rfl) fun p e s m args below meth c ls S hX hr hlk hE hl => ?_
  have S : CallFix p m c cX8_within 3 s args (Cond.code yX8_within cX8_within 3 (some .int) :: zw_tb) RX8 := S
  have hx := S.1
  have hb := S.2.1
  have hK := hX.2.1
  have hl : lv_has ls 3 [(0, .int a1), (1, .int a2), (2, .int a3)] := hl
  unfold fX8_within at h
  refine lv_iload_n hx hb dX8_within_0 rfl (lv_at hl 0 rfl) ?_
  refine lv_iload_n hx hb dX8_within_1 rfl (lv_at hl 1 rfl) ?_
  refine lv_icmp_ge (tgt := 9) hx hb dX8_within_2 (by decide) (fun c10001 => ?_) (fun c10001 => ?_)
  · have h := zif c10001 h
    refine lv_iload_n hx hb dX8_within_9 rfl (lv_at hl 0 rfl) ?_
    refine lv_iload_n hx hb dX8_within_10 rfl (lv_at hl 2 rfl) ?_
    refine lv_icmp_le (tgt := 18) hx hb dX8_within_11 (by decide) (fun c10002 => ?_) (fun c10002 => ?_)
    · have h := zif c10002 h
      refine lv_iload_n hx hb dX8_within_18 rfl (lv_at hl 0 rfl) ?_
      exact zr_iret S hE hr hlk h dX8_within_19
    · have h := zif' c10002 h
      refine lv_iload_n hx hb dX8_within_14 rfl (lv_at hl 2 rfl) ?_
      refine lv_goto (tgt := 19) hx hb dX8_within_15 (by decide) ?_
      exact zr_iret S hE hr hlk h dX8_within_19
  · have h := zif' c10001 h
    refine lv_iload_n hx hb dX8_within_5 rfl (lv_at hl 1 rfl) ?_
    refine lv_goto (tgt := 19) hx hb dX8_within_6 (by decide) ?_
    exact zr_iret S hE hr hlk h dX8_within_19
set_option maxHeartbeats 4000000 in
set_option maxRecDepth 100000 in
theorem kX8_doesPass (l : Launch) (D : va_G) (tc : Nat → ClassId) (lo : Nat) (ad : Nat → Nat) (fr : va_W) (zq : zz_Q) (a1 : Int32) (a2 : Int32) (w : zz_W) (r : Int32) (w_ : zz_W) (h : fX8_doesPass a1 a2 w = some (r, w_)) : zMi l yX8_doesPass cX8_doesPass 6 (some .boolean) { frames := 1, cells := 0, slots := 0, locals := 22 } D tc lo ad zshM znnM fr zq [.ref (ad 0), .int a1, .int a2] w r w_ := by
  refine zr_entry (by decide) (Nat.le_of_ble_eq_true rfl) fun p e s m args below meth c ls S hX hr hlk hE hl => ?_
  have S : CallFix p m c cX8_doesPass 6 s args (Cond.code yX8_doesPass cX8_doesPass 6 (some .boolean) :: zw_tb) RX8 := S
  have hx := S.1
  have hb := S.2.1
  have hK := hX.2.1
  have hl : lv_has ls 6 [(0, .ref (ad 0)), (1, .int a1), (2, .int a2)] := hl
  unfold fX8_doesPass at h
  have J120 : ∀ (l3 : Int32) (l4 : Int32) (w : zz_W) (ls : Array Slot) (H : Heap) (locs : List Loc), fX8_doesPass_120 a1 a2 l3 l4 w = some (r, w_) → lv_has ls 6 [(3, .int l3), (4, .int l4)] → zE D tc lo ad zshM znnM fr w s.heap H locs → W p l e { frames := 1, cells := 0, slots := 0, locals := 22 } s m args below meth c H locs 0 0 (zZi D tc lo ad zshM znnM fr below args s r w_) (F0 m 120 ls []) := by
    intro l3 l4 w ls H locs h hl hE
    unfold fX8_doesPass_120 at h
    refine lv_iload_n hx hb dX8_doesPass_120 rfl (lv_at hl 0 rfl) ?_
    refine lv_if_le (tgt := 134) hx hb dX8_doesPass_121 (by decide) (fun c61 => ?_) (fun c61 => ?_)
    · have h := zif c61 h
      refine lv_iconst (v := 0) hx hb dX8_doesPass_134 (by decide) ?_
      exact zr_zret S hE hr hlk (by decide) h dX8_doesPass_135
    · have h := zif' c61 h
      refine lv_iload hx hb dX8_doesPass_124 (lv_at hl 1 rfl) ?_
      refine lv_iconst (v := 5) hx hb dX8_doesPass_126 (by decide) ?_
      refine lv_icmp_ne (tgt := 134) hx hb dX8_doesPass_127 (by decide) (fun c62 => ?_) (fun c62 => ?_)
      · have h := zif' c62 h
        refine lv_iconst (v := 0) hx hb dX8_doesPass_134 (by decide) ?_
        exact zr_zret S hE hr hlk (by decide) h dX8_doesPass_135
      · have h := zif c62 h
        refine lv_iconst (v := 1) hx hb dX8_doesPass_130 (by decide) ?_
        refine lv_goto (tgt := 135) hx hb dX8_doesPass_131 (by decide) ?_
        exact zr_zret S hE hr hlk (by decide) h dX8_doesPass_135
  refine lv_iload_n hx hb dX8_doesPass_0 rfl (lv_at hl 2 rfl) ?_
  refine lv_bipush (v := 6) hx hb dX8_doesPass_1 (by decide) ?_
  obtain ⟨x10001, ex10001, h⟩ := zbdE h
  refine zr_idiv hx hb dX8_doesPass_3 ex10001 ?_
  refine lv_aload_n hx hb dX8_doesPass_4 rfl (lv_at hl 0 rfl) ?_
  refine lv_iload_n hx hb dX8_doesPass_5 rfl (lv_at hl 1 rfl) ?_
  refine lv_iconst (v := 1) hx hb dX8_doesPass_6 (by decide) ?_
  obtain ⟨x10002, w10003, ew10003, h⟩ := zbd2E h
  refine zr_i (zr_runV (As := [.int a1, .int 1]) S hX hE (kX8_of l D tc lo ad fr zq a1 1 w x10002 w10003 ew10003) zyX8_of qm_X8_103 zcl_X8 rfl (zm_0 w) ⟨rfl, rfl⟩ ⟨Nat.le_of_ble_eq_true rfl, Nat.le_of_ble_eq_true rfl⟩ rfl hl.1 rfl (Nat.le_of_ble_eq_true rfl) dX8_doesPass_7 ⟨Nat.zero_le _, Nat.zero_le _⟩) hE (fun H locs hE => ?_)
  refine lv_bipush (v := 6) hx hb dX8_doesPass_10 (by decide) ?_
  obtain ⟨x10004, ex10004, h⟩ := zbdE h
  refine zr_idiv hx hb dX8_doesPass_12 ex10004 ?_
  refine lv_isub hx hb dX8_doesPass_13 ?_
  obtain ⟨x10005, ex10005, h⟩ := zbdE h
  refine zr_topi ex10005 ?_
  refine lv_istore_n (lv' := [(3, .int x10005), (0, .ref (ad 0)), (1, .int a1), (2, .int a2)]) hx hb dX8_doesPass_14 rfl hl (by decide) rfl (fun ls hl => ?_)
  refine lv_iload_n hx hb dX8_doesPass_15 rfl (lv_at hl 3 rfl) ?_
  refine lv_bipush (v := 6) hx hb dX8_doesPass_16 (by decide) ?_
  obtain ⟨x10006, ex10006, h⟩ := zbdE h
  refine zr_irem hx hb dX8_doesPass_18 ex10006 ?_
  refine lv_istore (lv' := [(4, .int x10006), (3, .int x10005), (0, .ref (ad 0)), (1, .int a1), (2, .int a2)]) hx hb dX8_doesPass_19 hl (by decide) rfl (fun ls hl => ?_)
  refine lv_aload_n hx hb dX8_doesPass_21 rfl (lv_at hl 2 rfl) ?_
  refine lv_iload_n hx hb dX8_doesPass_22 rfl (lv_at hl 3 rfl) ?_
  refine lv_iconst (v := 1) hx hb dX8_doesPass_23 (by decide) ?_
  obtain ⟨x10007, w10008, ew10008, h⟩ := zbd2E h
  refine zr_i (zr_runV (As := [.int a1, .int 1]) S hX hE (kX8_of l D tc lo ad fr zq a1 1 w10003 x10007 w10008 ew10008) zyX8_of qm_X8_103 zcl_X8 rfl (zm_0 w10003) ⟨rfl, rfl⟩ ⟨Nat.le_of_ble_eq_true rfl, Nat.le_of_ble_eq_true rfl⟩ rfl hl.1 rfl (Nat.le_of_ble_eq_true rfl) dX8_doesPass_24 ⟨Nat.zero_le _, Nat.zero_le _⟩) hE (fun H locs hE => ?_)
  refine lv_bipush (v := 6) hx hb dX8_doesPass_27 (by decide) ?_
  obtain ⟨x10009, ex10009, h⟩ := zbdE h
  refine zr_irem hx hb dX8_doesPass_29 ex10009 ?_
  refine lv_istore (lv' := [(5, .int x10009), (4, .int x10006), (3, .int x10005), (0, .ref (ad 0)), (1, .int a1), (2, .int a2)]) hx hb dX8_doesPass_30 hl (by decide) rfl (fun ls hl => ?_)
  refine lv_aload_n hx hb dX8_doesPass_32 rfl (lv_at hl 3 rfl) ?_
  refine lv_iload_n hx hb dX8_doesPass_33 rfl (lv_at hl 4 rfl) ?_
  refine lv_iconst (v := 0) hx hb dX8_doesPass_34 (by decide) ?_
  obtain ⟨x10010, w10011, ew10011, h⟩ := zbd2E h
  refine zr_i (zr_runV (As := [.int a1, .int 0]) S hX hE (kX8_of l D tc lo ad fr zq a1 0 w10008 x10010 w10011 ew10011) zyX8_of qm_X8_103 zcl_X8 rfl (zm_0 w10008) ⟨rfl, rfl⟩ ⟨Nat.le_of_ble_eq_true rfl, Nat.le_of_ble_eq_true rfl⟩ rfl hl.1 rfl (Nat.le_of_ble_eq_true rfl) dX8_doesPass_35 ⟨Nat.zero_le _, Nat.zero_le _⟩) hE (fun H locs hE => ?_)
  by_cases c10014 : x10010 = 2
  · refine lv_tableIn (off := 30) (tgt := 68) hx hb dX8_doesPass_38 (by rw [c10014]; decide) (by rw [c10014]; decide) (by rw [c10014]; decide) (by decide) ?_
    have h := zif c10014 h
    refine lv_iload_n hx hb dX8_doesPass_68 rfl (lv_at hl 2 rfl) ?_
    refine lv_if_ne (tgt := 83) hx hb dX8_doesPass_69 (by decide) (fun c10012 => ?_) (fun c10012 => ?_)
    · have h := zif' c10012 h
      refine lv_iconst (v := 0) hx hb dX8_doesPass_83 (by decide) ?_
      exact zr_zret S hE hr hlk (by decide) h dX8_doesPass_84
    · have h := zif c10012 h
      refine lv_iload hx hb dX8_doesPass_72 (lv_at hl 1 rfl) ?_
      refine lv_iload hx hb dX8_doesPass_74 (lv_at hl 0 rfl) ?_
      refine lv_icmp_lt (tgt := 83) hx hb dX8_doesPass_76 (by decide) (fun c10013 => ?_) (fun c10013 => ?_)
      · have h := zif c10013 h
        refine lv_iconst (v := 0) hx hb dX8_doesPass_83 (by decide) ?_
        exact zr_zret S hE hr hlk (by decide) h dX8_doesPass_84
      · have h := zif' c10013 h
        refine lv_iconst (v := 1) hx hb dX8_doesPass_79 (by decide) ?_
        refine lv_goto (tgt := 84) hx hb dX8_doesPass_80 (by decide) ?_
        exact zr_zret S hE hr hlk (by decide) h dX8_doesPass_84
  have h := zif' c10014 h
  by_cases c10019 : x10010 = 3
  · refine lv_tableIn (off := 47) (tgt := 85) hx hb dX8_doesPass_38 (by rw [c10019]; decide) (by rw [c10019]; decide) (by rw [c10019]; decide) (by decide) ?_
    have h := zif c10019 h
    refine lv_iload_n hx hb dX8_doesPass_85 rfl (lv_at hl 2 rfl) ?_
    refine lv_if_lt (tgt := 107) hx hb dX8_doesPass_86 (by decide) (fun c10015 => ?_) (fun c10015 => ?_)
    · have h := zif c10015 h
      refine lv_iconst (v := 0) hx hb dX8_doesPass_107 (by decide) ?_
      exact zr_zret S hE hr hlk (by decide) h dX8_doesPass_108
    · have h := zif' c10015 h
      refine lv_iload hx hb dX8_doesPass_89 (lv_at hl 1 rfl) ?_
      refine lv_iload hx hb dX8_doesPass_91 (lv_at hl 0 rfl) ?_
      refine lv_iload_n hx hb dX8_doesPass_93 rfl (lv_at hl 2 rfl) ?_
      refine lv_iadd hx hb dX8_doesPass_94 ?_
      refine lv_iconst (v := 0) hx hb dX8_doesPass_95 (by decide) ?_
      refine lv_iconst (v := 5) hx hb dX8_doesPass_96 (by decide) ?_
      obtain ⟨x10016, w10017, ew10017, h⟩ := zbd2E h
      refine zr_i (zr_runS (As := [.int (x10009 + x10005), .int 0, .int 5]) S hX hE (kX8_within l D tc lo ad fr zq (x10009 + x10005) 0 5 w10011 x10016 w10017 ew10017) zyX8_within qm_X8_107 ⟨rfl, rfl⟩ ⟨Nat.le_of_ble_eq_true rfl, Nat.le_of_ble_eq_true rfl⟩ rfl hl.1 rfl (Nat.le_of_ble_eq_true rfl) dX8_doesPass_97 ⟨Nat.zero_le _, Nat.zero_le _⟩) hE (fun H locs hE => ?_)
      refine lv_icmp_ne (tgt := 107) hx hb dX8_doesPass_100 (by decide) (fun c10018 => ?_) (fun c10018 => ?_)
      · have h := zif' c10018 h
        refine lv_iconst (v := 0) hx hb dX8_doesPass_107 (by decide) ?_
        exact zr_zret S hE hr hlk (by decide) h dX8_doesPass_108
      · have h := zif c10018 h
        refine lv_iconst (v := 1) hx hb dX8_doesPass_103 (by decide) ?_
        refine lv_goto (tgt := 108) hx hb dX8_doesPass_104 (by decide) ?_
        exact zr_zret S hE hr hlk (by decide) h dX8_doesPass_108
  have h := zif' c10019 h
  by_cases c10022 : x10010 = 4
  · refine lv_tableIn (off := 71) (tgt := 109) hx hb dX8_doesPass_38 (by rw [c10022]; decide) (by rw [c10022]; decide) (by rw [c10022]; decide) (by decide) ?_
    have h := zif c10022 h
    refine lv_iload_n hx hb dX8_doesPass_109 rfl (lv_at hl 2 rfl) ?_
    refine lv_if_ne (tgt := 120) hx hb dX8_doesPass_110 (by decide) (fun c10020 => ?_) (fun c10020 => ?_)
    · have h := zif' c10020 h
      exact J120 x10005 x10006 w10011 ls _ _ h (lv_sub hl [2, 1] rfl) hE
    · have h := zif c10020 h
      refine lv_iload hx hb dX8_doesPass_113 (lv_at hl 1 rfl) ?_
      refine lv_iload hx hb dX8_doesPass_115 (lv_at hl 0 rfl) ?_
      refine lv_icmp_ge (tgt := 130) hx hb dX8_doesPass_117 (by decide) (fun c10021 => ?_) (fun c10021 => ?_)
      · have h := zif c10021 h
        refine lv_iconst (v := 1) hx hb dX8_doesPass_130 (by decide) ?_
        refine lv_goto (tgt := 135) hx hb dX8_doesPass_131 (by decide) ?_
        exact zr_zret S hE hr hlk (by decide) h dX8_doesPass_135
      · have h := zif' c10021 h
        exact J120 x10005 x10006 w10011 ls _ _ h (lv_sub hl [2, 1] rfl) hE
  have h := zif' c10022 h
  by_cases c10026 : x10010 = 5
  · refine lv_tableIn (off := 98) (tgt := 136) hx hb dX8_doesPass_38 (by rw [c10026]; decide) (by rw [c10026]; decide) (by rw [c10026]; decide) (by decide) ?_
    have h := zif c10026 h
    refine lv_iload hx hb dX8_doesPass_136 (lv_at hl 1 rfl) ?_
    refine lv_iload hx hb dX8_doesPass_138 (lv_at hl 0 rfl) ?_
    refine lv_icmp_eq (tgt := 161) hx hb dX8_doesPass_140 (by decide) (fun c10023 => ?_) (fun c10023 => ?_)
    · have h := zif c10023 h
      refine lv_iconst (v := 1) hx hb dX8_doesPass_161 (by decide) ?_
      refine lv_goto (tgt := 166) hx hb dX8_doesPass_162 (by decide) ?_
      exact zr_zret S hE hr hlk (by decide) h dX8_doesPass_166
    · have h := zif' c10023 h
      refine lv_iload hx hb dX8_doesPass_143 (lv_at hl 1 rfl) ?_
      refine lv_iload hx hb dX8_doesPass_145 (lv_at hl 0 rfl) ?_
      refine lv_isub hx hb dX8_doesPass_147 ?_
      refine lv_iconst (v := 3) hx hb dX8_doesPass_148 (by decide) ?_
      refine lv_icmp_eq (tgt := 161) hx hb dX8_doesPass_149 (by decide) (fun c10024 => ?_) (fun c10024 => ?_)
      · have h := zif c10024 h
        refine lv_iconst (v := 1) hx hb dX8_doesPass_161 (by decide) ?_
        refine lv_goto (tgt := 166) hx hb dX8_doesPass_162 (by decide) ?_
        exact zr_zret S hE hr hlk (by decide) h dX8_doesPass_166
      · have h := zif' c10024 h
        refine lv_iload hx hb dX8_doesPass_152 (lv_at hl 0 rfl) ?_
        refine lv_iload hx hb dX8_doesPass_154 (lv_at hl 1 rfl) ?_
        refine lv_isub hx hb dX8_doesPass_156 ?_
        refine lv_iconst (v := 3) hx hb dX8_doesPass_157 (by decide) ?_
        refine lv_icmp_ne (tgt := 165) hx hb dX8_doesPass_158 (by decide) (fun c10025 => ?_) (fun c10025 => ?_)
        · have h := zif' c10025 h
          refine lv_iconst (v := 0) hx hb dX8_doesPass_165 (by decide) ?_
          exact zr_zret S hE hr hlk (by decide) h dX8_doesPass_166
        · have h := zif c10025 h
          refine lv_iconst (v := 1) hx hb dX8_doesPass_161 (by decide) ?_
          refine lv_goto (tgt := 166) hx hb dX8_doesPass_162 (by decide) ?_
          exact zr_zret S hE hr hlk (by decide) h dX8_doesPass_166
  have h := zif' c10026 h
  refine lv_tableOut (tgt := 167) hx hb dX8_doesPass_38 (by have tc10014 := lv_neT c10014 (a := 2) (by decide); have tc10019 := lv_neT c10019 (a := 3) (by decide); have tc10022 := lv_neT c10022 (a := 4) (by decide); have tc10026 := lv_neT c10026 (a := 5) (by decide); omega) (by decide) ?_
  refine lv_iload_n hx hb dX8_doesPass_167 rfl (lv_at hl 2 rfl) ?_
  refine lv_if_lt (tgt := 182) hx hb dX8_doesPass_168 (by decide) (fun c10027 => ?_) (fun c10027 => ?_)
  · have h := zif c10027 h
    refine lv_iconst (v := 0) hx hb dX8_doesPass_182 (by decide) ?_
    exact zr_zret S hE hr hlk (by decide) h dX8_doesPass_183
  · have h := zif' c10027 h
    refine lv_iload hx hb dX8_doesPass_171 (lv_at hl 1 rfl) ?_
    refine lv_iload hx hb dX8_doesPass_173 (lv_at hl 0 rfl) ?_
    refine lv_icmp_ne (tgt := 182) hx hb dX8_doesPass_175 (by decide) (fun c10028 => ?_) (fun c10028 => ?_)
    · have h := zif' c10028 h
      refine lv_iconst (v := 0) hx hb dX8_doesPass_182 (by decide) ?_
      exact zr_zret S hE hr hlk (by decide) h dX8_doesPass_183
    · have h := zif c10028 h
      refine lv_iconst (v := 1) hx hb dX8_doesPass_178 (by decide) ?_
      refine lv_goto (tgt := 183) hx hb dX8_doesPass_179 (by decide) ?_
      exact zr_zret S hE hr hlk (by decide) h dX8_doesPass_183
set_option maxHeartbeats 4000000 in
set_option maxRecDepth 100000 in
theorem kX8_doesTell (l : Launch) (D : va_G) (tc : Nat → ClassId) (lo : Nat) (ad : Nat → Nat) (fr : va_W) (zq : zz_Q) (a1 : Int32) (a2 : Int32) (a3 : Int32) (w : zz_W) (r : Int32) (w_ : zz_W) (h : fX8_doesTell a1 a2 a3 w = some (r, w_)) : zMi l yX8_doesTell cX8_doesTell 7 (some .boolean) { frames := 2, cells := 0, slots := 0, locals := 47 } D tc lo ad zshM znnM fr zq [.ref (ad 0), .int a1, .int a2, .int a3] w r w_ := by
  refine zr_entry (by decide) (Nat.le_of_ble_eq_true rfl) fun p e s m args below meth c ls S hX hr hlk hE hl => ?_
  have S : CallFix p m c cX8_doesTell 7 s args (Cond.code yX8_doesTell cX8_doesTell 7 (some .boolean) :: zw_tb) RX8 := S
  have hx := S.1
  have hb := S.2.1
  have hK := hX.2.1
  have hl : lv_has ls 7 [(0, .ref (ad 0)), (1, .int a1), (2, .int a2), (3, .int a3)] := hl
  unfold fX8_doesTell at h
  have J33 : ∀ (l1 : Int32) (l2 : Int32) (l3 : Int32) (l4 : Int32) (l5 : Int32) (s0 : Int32) (w : zz_W) (ls : Array Slot) (H : Heap) (locs : List Loc), fX8_doesTell_33 a1 a2 a3 l1 l2 l3 l4 l5 s0 w = some (r, w_) → lv_has ls 7 [(0, .ref (ad 0)), (1, .int l1), (2, .int l2), (3, .int l3), (4, .int l4), (5, .int l5)] → zE D tc lo ad zshM znnM fr w s.heap H locs → W p l e { frames := 2, cells := 0, slots := 0, locals := 47 } s m args below meth c H locs 0 0 (zZi D tc lo ad zshM znnM fr below args s r w_) (F0 m 33 ls [.int s0]) := by
    intro l1 l2 l3 l4 l5 s0 w ls H locs h hl hE
    unfold fX8_doesTell_33 at h
    refine lv_istore (lv' := [(6, .int s0), (0, .ref (ad 0)), (1, .int l1), (2, .int l2), (3, .int l3), (4, .int l4), (5, .int l5)]) hx hb dX8_doesTell_33 hl (by decide) rfl (fun ls hl => ?_)
    refine lv_iload_n hx hb dX8_doesTell_35 rfl (lv_at hl 3 rfl) ?_
    by_cases c61 : l2 = 0
    · refine lv_tableIn (off := 28) (tgt := 64) hx hb dX8_doesTell_36 (by rw [c61]; decide) (by rw [c61]; decide) (by rw [c61]; decide) (by decide) ?_
      have h := zif c61 h
      refine lv_iload hx hb dX8_doesTell_64 (lv_at hl 5 rfl) ?_
      refine lv_if_eq (tgt := 94) hx hb dX8_doesTell_66 (by decide) (fun c55 => ?_) (fun c55 => ?_)
      · have h := zif c55 h
        refine lv_iconst (v := 0) hx hb dX8_doesTell_94 (by decide) ?_
        exact zr_zret S hE hr hlk (by decide) h dX8_doesTell_95
      · have h := zif' c55 h
        refine lv_iload hx hb dX8_doesTell_69 (lv_at hl 6 rfl) ?_
        refine lv_iconst (v := 5) hx hb dX8_doesTell_71 (by decide) ?_
        refine lv_icmp_eq (tgt := 90) hx hb dX8_doesTell_72 (by decide) (fun c56 => ?_) (fun c56 => ?_)
        · have h := zif c56 h
          refine lv_iconst (v := 1) hx hb dX8_doesTell_90 (by decide) ?_
          refine lv_goto (tgt := 95) hx hb dX8_doesTell_91 (by decide) ?_
          exact zr_zret S hE hr hlk (by decide) h dX8_doesTell_95
        · have h := zif' c56 h
          refine lv_iload hx hb dX8_doesTell_75 (lv_at hl 0 rfl) ?_
          refine lv_if_eq (tgt := 94) hx hb dX8_doesTell_77 (by decide) (fun c57 => ?_) (fun c57 => ?_)
          · have h := zif c57 h
            refine lv_iconst (v := 0) hx hb dX8_doesTell_94 (by decide) ?_
            exact zr_zret S hE hr hlk (by decide) h dX8_doesTell_95
          · have h := zif' c57 h
            refine lv_aload_n hx hb dX8_doesTell_80 rfl (lv_at hl 1 rfl) ?_
            refine lv_iload_n hx hb dX8_doesTell_81 rfl (lv_at hl 2 rfl) ?_
            refine lv_iconst (v := 3) hx hb dX8_doesTell_82 (by decide) ?_
            obtain ⟨x58, w59, ew59, h⟩ := zbd2E h
            refine zr_i (zr_runV (As := [.int l1, .int 3]) S hX hE (kX8_of l D tc lo ad fr zq l1 3 w x58 w59 ew59) zyX8_of qm_X8_103 zcl_X8 rfl (zm_0 w) ⟨rfl, rfl⟩ ⟨Nat.le_of_ble_eq_true rfl, Nat.le_of_ble_eq_true rfl⟩ rfl hl.1 rfl (Nat.le_of_ble_eq_true rfl) dX8_doesTell_83 ⟨Nat.zero_le _, Nat.zero_le _⟩) hE (fun H locs hE => ?_)
            refine lv_iconst (v := 4) hx hb dX8_doesTell_86 (by decide) ?_
            refine lv_icmp_ge (tgt := 94) hx hb dX8_doesTell_87 (by decide) (fun c60 => ?_) (fun c60 => ?_)
            · have h := zif c60 h
              refine lv_iconst (v := 0) hx hb dX8_doesTell_94 (by decide) ?_
              exact zr_zret S hE hr hlk (by decide) h dX8_doesTell_95
            · have h := zif' c60 h
              refine lv_iconst (v := 1) hx hb dX8_doesTell_90 (by decide) ?_
              refine lv_goto (tgt := 95) hx hb dX8_doesTell_91 (by decide) ?_
              exact zr_zret S hE hr hlk (by decide) h dX8_doesTell_95
    have h := zif' c61 h
    by_cases c71 : l2 = 1
    · refine lv_tableIn (off := 60) (tgt := 96) hx hb dX8_doesTell_36 (by rw [c71]; decide) (by rw [c71]; decide) (by rw [c71]; decide) (by decide) ?_
      have h := zif c71 h
      refine lv_iload hx hb dX8_doesTell_96 (lv_at hl 5 rfl) ?_
      refine lv_if_eq (tgt := 139) hx hb dX8_doesTell_98 (by decide) (fun c62 => ?_) (fun c62 => ?_)
      · have h := zif c62 h
        refine lv_iconst (v := 0) hx hb dX8_doesTell_139 (by decide) ?_
        exact zr_zret S hE hr hlk (by decide) h dX8_doesTell_140
      · have h := zif' c62 h
        refine lv_iload hx hb dX8_doesTell_101 (lv_at hl 0 rfl) ?_
        refine lv_if_eq (tgt := 120) hx hb dX8_doesTell_103 (by decide) (fun c63 => ?_) (fun c63 => ?_)
        · have h := zif c63 h
          refine lv_iload hx hb dX8_doesTell_120 (lv_at hl 6 rfl) ?_
          refine lv_iconst (v := 5) hx hb dX8_doesTell_122 (by decide) ?_
          refine lv_icmp_ne (tgt := 135) hx hb dX8_doesTell_123 (by decide) (fun c64 => ?_) (fun c64 => ?_)
          · have h := zif' c64 h
            refine lv_iconst (v := 1) hx hb dX8_doesTell_135 (by decide) ?_
            refine lv_goto (tgt := 140) hx hb dX8_doesTell_136 (by decide) ?_
            exact zr_zret S hE hr hlk (by decide) h dX8_doesTell_140
          · have h := zif c64 h
            refine lv_iload_n hx hb dX8_doesTell_126 rfl (lv_at hl 4 rfl) ?_
            refine lv_bipush (v := 6) hx hb dX8_doesTell_127 (by decide) ?_
            obtain ⟨x65, ex65, h⟩ := zbdE h
            refine zr_idiv hx hb dX8_doesTell_129 ex65 ?_
            refine lv_iconst (v := 2) hx hb dX8_doesTell_130 (by decide) ?_
            obtain ⟨x66, ex66, h⟩ := zbdE h
            refine zr_irem hx hb dX8_doesTell_131 ex66 ?_
            refine lv_if_ne (tgt := 139) hx hb dX8_doesTell_132 (by decide) (fun c67 => ?_) (fun c67 => ?_)
            · have h := zif' c67 h
              refine lv_iconst (v := 0) hx hb dX8_doesTell_139 (by decide) ?_
              exact zr_zret S hE hr hlk (by decide) h dX8_doesTell_140
            · have h := zif c67 h
              refine lv_iconst (v := 1) hx hb dX8_doesTell_135 (by decide) ?_
              refine lv_goto (tgt := 140) hx hb dX8_doesTell_136 (by decide) ?_
              exact zr_zret S hE hr hlk (by decide) h dX8_doesTell_140
        · have h := zif' c63 h
          refine lv_aload_n hx hb dX8_doesTell_106 rfl (lv_at hl 1 rfl) ?_
          refine lv_iload_n hx hb dX8_doesTell_107 rfl (lv_at hl 2 rfl) ?_
          refine lv_iconst (v := 3) hx hb dX8_doesTell_108 (by decide) ?_
          obtain ⟨x68, w69, ew69, h⟩ := zbd2E h
          refine zr_i (zr_runV (As := [.int l1, .int 3]) S hX hE (kX8_of l D tc lo ad fr zq l1 3 w x68 w69 ew69) zyX8_of qm_X8_103 zcl_X8 rfl (zm_0 w) ⟨rfl, rfl⟩ ⟨Nat.le_of_ble_eq_true rfl, Nat.le_of_ble_eq_true rfl⟩ rfl hl.1 rfl (Nat.le_of_ble_eq_true rfl) dX8_doesTell_109 ⟨Nat.zero_le _, Nat.zero_le _⟩) hE (fun H locs hE => ?_)
          refine lv_bipush (v := 7) hx hb dX8_doesTell_112 (by decide) ?_
          refine lv_icmp_ge (tgt := 139) hx hb dX8_doesTell_114 (by decide) (fun c70 => ?_) (fun c70 => ?_)
          · have h := zif c70 h
            refine lv_iconst (v := 0) hx hb dX8_doesTell_139 (by decide) ?_
            exact zr_zret S hE hr hlk (by decide) h dX8_doesTell_140
          · have h := zif' c70 h
            refine lv_goto (tgt := 135) hx hb dX8_doesTell_117 (by decide) ?_
            refine lv_iconst (v := 1) hx hb dX8_doesTell_135 (by decide) ?_
            refine lv_goto (tgt := 140) hx hb dX8_doesTell_136 (by decide) ?_
            exact zr_zret S hE hr hlk (by decide) h dX8_doesTell_140
    have h := zif' c71 h
    by_cases c74 : l2 = 2
    · refine lv_tableIn (off := 105) (tgt := 141) hx hb dX8_doesTell_36 (by rw [c74]; decide) (by rw [c74]; decide) (by rw [c74]; decide) (by decide) ?_
      have h := zif c74 h
      refine lv_iload hx hb dX8_doesTell_141 (lv_at hl 5 rfl) ?_
      refine lv_if_eq (tgt := 155) hx hb dX8_doesTell_143 (by decide) (fun c72 => ?_) (fun c72 => ?_)
      · have h := zif c72 h
        refine lv_iconst (v := 0) hx hb dX8_doesTell_155 (by decide) ?_
        exact zr_zret S hE hr hlk (by decide) h dX8_doesTell_156
      · have h := zif' c72 h
        refine lv_iload hx hb dX8_doesTell_146 (lv_at hl 0 rfl) ?_
        refine lv_if_eq (tgt := 155) hx hb dX8_doesTell_148 (by decide) (fun c73 => ?_) (fun c73 => ?_)
        · have h := zif c73 h
          refine lv_iconst (v := 0) hx hb dX8_doesTell_155 (by decide) ?_
          exact zr_zret S hE hr hlk (by decide) h dX8_doesTell_156
        · have h := zif' c73 h
          refine lv_iconst (v := 1) hx hb dX8_doesTell_151 (by decide) ?_
          refine lv_goto (tgt := 156) hx hb dX8_doesTell_152 (by decide) ?_
          exact zr_zret S hE hr hlk (by decide) h dX8_doesTell_156
    have h := zif' c74 h
    refine lv_tableOut (tgt := 157) hx hb dX8_doesTell_36 (by have tc61 := lv_neT c61 (a := 0) (by decide); have tc71 := lv_neT c71 (a := 1) (by decide); have tc74 := lv_neT c74 (a := 2) (by decide); omega) (by decide) ?_
    refine lv_iload hx hb dX8_doesTell_157 (lv_at hl 5 rfl) ?_
    obtain ⟨x75, ex75, h⟩ := zbdE h
    obtain ⟨ezx75, enx75⟩ := zboo_in ex75
    refine zr_topi (congrArg some ezx75) ?_
    exact zr_zret S hE hr hlk enx75 h dX8_doesTell_159
  have J28 : ∀ (l1 : Int32) (l2 : Int32) (l3 : Int32) (l4 : Int32) (l5 : Int32) (w : zz_W) (ls : Array Slot) (H : Heap) (locs : List Loc), fX8_doesTell_28 a1 a2 a3 l1 l2 l3 l4 l5 w = some (r, w_) → lv_has ls 7 [(0, .ref (ad 0)), (1, .int l1), (2, .int l2), (3, .int l3), (4, .int l4), (5, .int l5)] → zE D tc lo ad zshM znnM fr w s.heap H locs → W p l e { frames := 2, cells := 0, slots := 0, locals := 47 } s m args below meth c H locs 0 0 (zZi D tc lo ad zshM znnM fr below args s r w_) (F0 m 28 ls []) := by
    intro l1 l2 l3 l4 l5 w ls H locs h hl hE
    unfold fX8_doesTell_28 at h
    refine lv_iconst (v := 1) hx hb dX8_doesTell_28 (by decide) ?_
    refine lv_goto (tgt := 33) hx hb dX8_doesTell_29 (by decide) ?_
    exact J33 l1 l2 l3 l4 l5 1 w ls _ _ h (lv_sub hl [0, 1, 2, 3, 4, 5] rfl) hE
  refine lv_aload_n hx hb dX8_doesTell_0 rfl (lv_at hl 0 rfl) ?_
  refine lv_iload_n hx hb dX8_doesTell_1 rfl (lv_at hl 1 rfl) ?_
  refine lv_iload_n hx hb dX8_doesTell_2 rfl (lv_at hl 3 rfl) ?_
  obtain ⟨x10001, w10002, ew10002, h⟩ := zbd2E h
  refine zr_i (zr_runV (As := [.int a1, .int a3]) S hX hE (kX8_doesPass l D tc lo ad fr zq a1 a3 w x10001 w10002 ew10002) zyX8_doesPass qm_X8_111 zcl_X8 rfl (zm_0 w) ⟨rfl, rfl⟩ ⟨Nat.le_of_ble_eq_true rfl, Nat.le_of_ble_eq_true rfl⟩ rfl hl.1 rfl (Nat.le_of_ble_eq_true rfl) dX8_doesTell_3 ⟨Nat.zero_le _, Nat.zero_le _⟩) hE (fun H locs hE => ?_)
  refine lv_istore (lv' := [(4, .int x10001), (0, .ref (ad 0)), (1, .int a1), (2, .int a2), (3, .int a3)]) hx hb dX8_doesTell_6 hl (by decide) rfl (fun ls hl => ?_)
  refine lv_aload_n hx hb dX8_doesTell_8 rfl (lv_at hl 1 rfl) ?_
  refine lv_iload_n hx hb dX8_doesTell_9 rfl (lv_at hl 2 rfl) ?_
  refine lv_iconst (v := 0) hx hb dX8_doesTell_10 (by decide) ?_
  obtain ⟨x10003, w10004, ew10004, h⟩ := zbd2E h
  refine zr_i (zr_runV (As := [.int a1, .int 0]) S hX hE (kX8_of l D tc lo ad fr zq a1 0 w10002 x10003 w10004 ew10004) zyX8_of qm_X8_103 zcl_X8 rfl (zm_0 w10002) ⟨rfl, rfl⟩ ⟨Nat.le_of_ble_eq_true rfl, Nat.le_of_ble_eq_true rfl⟩ rfl hl.1 rfl (Nat.le_of_ble_eq_true rfl) dX8_doesTell_11 ⟨Nat.zero_le _, Nat.zero_le _⟩) hE (fun H locs hE => ?_)
  refine lv_istore (lv' := [(5, .int x10003), (4, .int x10001), (0, .ref (ad 0)), (1, .int a1), (2, .int a2), (3, .int a3)]) hx hb dX8_doesTell_14 hl (by decide) rfl (fun ls hl => ?_)
  refine lv_iload hx hb dX8_doesTell_16 (lv_at hl 0 rfl) ?_
  refine lv_iconst (v := 2) hx hb dX8_doesTell_18 (by decide) ?_
  refine lv_icmp_eq (tgt := 28) hx hb dX8_doesTell_19 (by decide) (fun c10005 => ?_) (fun c10005 => ?_)
  · have h := zif c10005 h
    exact J28 a1 a2 a3 x10001 x10003 w10004 ls _ _ h (lv_sub hl [2, 3, 4, 5, 1, 0] rfl) hE
  · have h := zif' c10005 h
    refine lv_iload hx hb dX8_doesTell_22 (lv_at hl 0 rfl) ?_
    refine lv_iconst (v := 4) hx hb dX8_doesTell_24 (by decide) ?_
    refine lv_icmp_ne (tgt := 32) hx hb dX8_doesTell_25 (by decide) (fun c10006 => ?_) (fun c10006 => ?_)
    · have h := zif' c10006 h
      refine lv_iconst (v := 0) hx hb dX8_doesTell_32 (by decide) ?_
      exact J33 a1 a2 a3 x10001 x10003 0 w10004 ls _ _ h (lv_sub hl [2, 3, 4, 5, 1, 0] rfl) hE
    · have h := zif c10006 h
      exact J28 a1 a2 a3 x10001 x10003 w10004 ls _ _ h (lv_sub hl [2, 3, 4, 5, 1, 0] rfl) hE
set_option maxHeartbeats 4000000 in
set_option maxRecDepth 100000 in
theorem kX8_oddsToBeTold (l : Launch) (D : va_G) (tc : Nat → ClassId) (lo : Nat) (ad : Nat → Nat) (fr : va_W) (zq : zz_Q) (a1 : Int32) (a2 : Int32) (w : zz_W) (r : Int32) (w_ : zz_W) (h : fX8_oddsToBeTold a1 a2 w = some (r, w_)) : zMi l yX8_oddsToBeTold cX8_oddsToBeTold 4 (some .int) { frames := 0, cells := 0, slots := 0, locals := 0 } D tc lo ad zshM znnM fr zq [.ref (ad 0), .int a1, .int a2] w r w_ := by
  refine zr_entry (by decide) (Nat.le_of_ble_eq_true rfl) fun p e s m args below meth c ls S hX hr hlk hE hl => ?_
  have S : CallFix p m c cX8_oddsToBeTold 4 s args (Cond.code yX8_oddsToBeTold cX8_oddsToBeTold 4 (some .int) :: zw_tb) RX8 := S
  have hx := S.1
  have hb := S.2.1
  have hK := hX.2.1
  have hl : lv_has ls 4 [(0, .ref (ad 0)), (1, .int a1), (2, .int a2)] := hl
  unfold fX8_oddsToBeTold at h
  have J15 : ∀ (l1 : Int32) (s0 : Int32) (w : zz_W) (ls : Array Slot) (H : Heap) (locs : List Loc), fX8_oddsToBeTold_15 a1 a2 l1 s0 w = some (r, w_) → lv_has ls 4 [(1, .int l1)] → zE D tc lo ad zshM znnM fr w s.heap H locs → W p l e { frames := 0, cells := 0, slots := 0, locals := 0 } s m args below meth c H locs 0 0 (zZi D tc lo ad zshM znnM fr below args s r w_) (F0 m 15 ls [.int s0]) := by
    intro l1 s0 w ls H locs h hl hE
    unfold fX8_oddsToBeTold_15 at h
    refine lv_istore_n (lv' := [(3, .int s0), (1, .int l1)]) hx hb dX8_oddsToBeTold_15 rfl hl (by decide) rfl (fun ls hl => ?_)
    refine lv_iload_n hx hb dX8_oddsToBeTold_16 rfl (lv_at hl 1 rfl) ?_
    refine lv_if_eq (tgt := 27) hx hb dX8_oddsToBeTold_17 (by decide) (fun c7 => ?_) (fun c7 => ?_)
    · have h := zif c7 h
      refine lv_iload_n hx hb dX8_oddsToBeTold_27 rfl (lv_at hl 0 rfl) ?_
      exact zr_iret S hE hr hlk h dX8_oddsToBeTold_28
    · have h := zif' c7 h
      refine lv_bipush (v := 100) hx hb dX8_oddsToBeTold_20 (by decide) ?_
      refine lv_iload_n hx hb dX8_oddsToBeTold_22 rfl (lv_at hl 0 rfl) ?_
      refine lv_isub hx hb dX8_oddsToBeTold_23 ?_
      refine lv_goto (tgt := 28) hx hb dX8_oddsToBeTold_24 (by decide) ?_
      exact zr_iret S hE hr hlk h dX8_oddsToBeTold_28
  refine lv_iload_n hx hb dX8_oddsToBeTold_0 rfl (lv_at hl 2 rfl) ?_
  refine lv_iconst (v := 3) hx hb dX8_oddsToBeTold_1 (by decide) ?_
  refine lv_icmp_ne (tgt := 9) hx hb dX8_oddsToBeTold_2 (by decide) (fun c10001 => ?_) (fun c10001 => ?_)
  · have h := zif' c10001 h
    refine lv_aload_n hx hb dX8_oddsToBeTold_9 rfl (lv_at hl 0 rfl) ?_
    refine zr_getA S hK hE zcl_X8 (zm_0 w) 0 (Nat.le_of_ble_eq_true rfl) (q := 1) rfl qf_X8_9 dX8_oddsToBeTold_10 ?_
    refine lv_iconst (v := 3) hx hb dX8_oddsToBeTold_13 (by decide) ?_
    obtain ⟨x10002, ex10002, h⟩ := zbdE h
    refine zr_iald S hK hE (zm_1 w) dX8_oddsToBeTold_14 ex10002 ?_
    exact J15 a1 x10002 w ls _ _ h (lv_sub hl [1] rfl) hE
  · have h := zif c10001 h
    refine lv_iconst (v := 0) hx hb dX8_oddsToBeTold_5 (by decide) ?_
    refine lv_goto (tgt := 15) hx hb dX8_oddsToBeTold_6 (by decide) ?_
    exact J15 a1 0 w ls _ _ h (lv_sub hl [1] rfl) hE
set_option maxHeartbeats 4000000 in
set_option maxRecDepth 100000 in
theorem kX8_put (l : Launch) (D : va_G) (tc : Nat → ClassId) (lo : Nat) (ad : Nat → Nat) (fr : va_W) (zq : zz_Q) (a1 : Int32) (a2 : Int32) (a3 : Int32) (w : zz_W) (w_ : zz_W) (h : fX8_put a1 a2 a3 w = some w_) : zMv l yX8_put cX8_put 4 none { frames := 0, cells := 0, slots := 0, locals := 0 } D tc lo ad zshM znnM fr zq [.ref (ad 0), .int a1, .int a2, .int a3] w w_ := by
  refine zr_entry (by decide) (Nat.le_of_ble_eq_true rfl) fun p e s m args below meth c ls S hX hr hlk hE hl => ?_
  have S : CallFix p m c cX8_put 4 s args (Cond.code yX8_put cX8_put 4 none :: zw_tb) RX8 := S
  have hx := S.1
  have hb := S.2.1
  have hK := hX.2.1
  have hl : lv_has ls 4 [(0, .ref (ad 0)), (1, .int a1), (2, .int a2), (3, .int a3)] := hl
  unfold fX8_put at h
  refine lv_aload_n hx hb dX8_put_0 rfl (lv_at hl 0 rfl) ?_
  refine zr_getA S hK hE zcl_X8 (zm_0 w) 0 (Nat.le_of_ble_eq_true rfl) (q := 1) rfl qf_X8_9 dX8_put_1 ?_
  refine lv_bipush (v := 14) hx hb dX8_put_4 (by decide) ?_
  refine lv_iconst (v := 5) hx hb dX8_put_6 (by decide) ?_
  refine lv_iload_n hx hb dX8_put_7 rfl (lv_at hl 1 rfl) ?_
  refine lv_imul hx hb dX8_put_8 ?_
  refine lv_iadd hx hb dX8_put_9 ?_
  refine lv_iload_n hx hb dX8_put_10 rfl (lv_at hl 2 rfl) ?_
  refine lv_iadd hx hb dX8_put_11 ?_
  refine lv_iload_n hx hb dX8_put_12 rfl (lv_at hl 3 rfl) ?_
  obtain ⟨w10001, ew10001, h⟩ := zbdE h
  refine zr_iast S hK hE (zm_1 w) dX8_put_13 ew10001 (fun H locs hE => ?_)
  exact zr_vret S hE hr hlk h dX8_put_14
set_option maxHeartbeats 4000000 in
set_option maxRecDepth 100000 in
theorem kX8_tests (l : Launch) (D : va_G) (tc : Nat → ClassId) (lo : Nat) (ad : Nat → Nat) (fr : va_W) (zq : zz_Q) (a1 : Int32) (a2 : Int32) (w : zz_W) (r : Int32) (w_ : zz_W) (h : fX8_tests a1 a2 w = some (r, w_)) : zMi l yX8_tests cX8_tests 5 (some .boolean) { frames := 3, cells := 0, slots := 0, locals := 73 } D tc lo ad zshM znnM fr zq [.ref (ad 0), .int a1, .int a2] w r w_ := by
  refine zr_entry (by decide) (Nat.le_of_ble_eq_true rfl) fun p e s m args below meth c ls S hX hr hlk hE hl => ?_
  have S : CallFix p m c cX8_tests 5 s args (Cond.code yX8_tests cX8_tests 5 (some .boolean) :: zw_tb) RX8 := S
  have hx := S.1
  have hb := S.2.1
  have hK := hX.2.1
  have hl : lv_has ls 5 [(0, .ref (ad 0)), (1, .int a1), (2, .int a2)] := hl
  unfold fX8_tests at h
  have L172 : ∀ (n : Nat) (l3 : Int32) (l4 : Int32) (w : zz_W) (ls : Array Slot) (H : Heap) (locs : List Loc), fX8_tests_172 a1 a2 n l3 l4 w = some (r, w_) → lv_has ls 5 [(0, .ref (ad 0)), (3, .int l3), (4, .int l4)] → zE D tc lo ad zshM znnM fr w s.heap H locs → W p l e { frames := 3, cells := 0, slots := 0, locals := 73 } s m args below meth c H locs 0 0 (zZi D tc lo ad zshM znnM fr below args s r w_) (F0 m 172 ls []) := by
    intro n172
    induction n172 with
    | zero => intro l3 l4 w ls H locs h hl hE; rw [fX8_tests_172] at h; cases h
    | succ n172 ih172 =>
      intro l3 l4 w ls H locs h hl hE
      rw [fX8_tests_172] at h
      refine lv_iload hx hb dX8_tests_172 (lv_at hl 2 rfl) ?_
      refine lv_aload_n hx hb dX8_tests_174 rfl (lv_at hl 0 rfl) ?_
      refine zr_getA S hK hE zcl_X8 (zm_0 w) 0 (Nat.le_of_ble_eq_true rfl) (q := 1) rfl qf_X8_9 dX8_tests_175 ?_
      refine lv_iconst (v := 1) hx hb dX8_tests_178 (by decide) ?_
      obtain ⟨x85, ex85, h⟩ := zbdE h
      refine zr_iald S hK hE (zm_1 w) dX8_tests_179 ex85 ?_
      refine lv_icmp_ge (tgt := 207) hx hb dX8_tests_180 (by decide) (fun c86 => ?_) (fun c86 => ?_)
      · have h := zif c86 h
        refine lv_iload_n hx hb dX8_tests_207 rfl (lv_at hl 1 rfl) ?_
        obtain ⟨x87, ex87, h⟩ := zbdE h
        obtain ⟨ezx87, enx87⟩ := zboo_in ex87
        refine zr_topi (congrArg some ezx87) ?_
        exact zr_zret S hE hr hlk enx87 h dX8_tests_208
      · have h := zif' c86 h
        refine lv_aload_n hx hb dX8_tests_183 rfl (lv_at hl 0 rfl) ?_
        refine lv_iload hx hb dX8_tests_184 (lv_at hl 2 rfl) ?_
        refine lv_iconst (v := 4) hx hb dX8_tests_186 (by decide) ?_
        refine lv_sipush (v := 1000) hx hb dX8_tests_187 (by decide) ?_
        refine lv_aload_n hx hb dX8_tests_190 rfl (lv_at hl 0 rfl) ?_
        refine lv_iload hx hb dX8_tests_191 (lv_at hl 2 rfl) ?_
        refine lv_iconst (v := 2) hx hb dX8_tests_193 (by decide) ?_
        obtain ⟨x88, w89, ew89, h⟩ := zbd2E h
        refine zr_i (zr_runV (As := [.int l4, .int 2]) S hX hE (kX8_of l D tc lo ad fr zq l4 2 w x88 w89 ew89) zyX8_of qm_X8_103 zcl_X8 rfl (zm_0 w) ⟨rfl, rfl⟩ ⟨Nat.le_of_ble_eq_true rfl, Nat.le_of_ble_eq_true rfl⟩ rfl hl.1 rfl (Nat.le_of_ble_eq_true rfl) dX8_tests_194 ⟨Nat.zero_le _, Nat.zero_le _⟩) hE (fun H locs hE => ?_)
        refine lv_imul hx hb dX8_tests_197 ?_
        obtain ⟨w90, ew90, h⟩ := zbdE h
        refine zr_v (zr_runV (As := [.int l4, .int 4, .int (1000 * x88)]) S hX hE (kX8_put l D tc lo ad fr zq l4 4 (1000 * x88) w89 w90 ew90) zyX8_put qm_X8_85 zcl_X8 rfl (zm_0 w89) ⟨rfl, rfl⟩ ⟨Nat.le_of_ble_eq_true rfl, Nat.le_of_ble_eq_true rfl⟩ rfl hl.1 rfl (Nat.le_of_ble_eq_true rfl) dX8_tests_198 ⟨Nat.zero_le _, Nat.zero_le _⟩) hE (fun H locs hE => ?_)
        obtain ⟨x91, ex91, h⟩ := zbdE h
        refine lv_iinc (v := x91) (lv' := [(4, .int x91), (0, .ref (ad 0)), (3, .int l3)]) hx hb dX8_tests_201 hl (k := 2) rfl (zinc (k := 1) (by decide) ex91) (by decide) rfl (fun ls hl => ?_)
        refine lv_goto (tgt := 172) hx hb dX8_tests_204 (by decide) ?_
        exact ih172 l3 x91 w90 ls _ _ h (lv_sub hl [1, 2, 0] rfl) hE
  have L93 : ∀ (n : Nat) (l1 : Int32) (l2 : Int32) (l3 : Int32) (l4 : Int32) (w : zz_W) (ls : Array Slot) (H : Heap) (locs : List Loc), fX8_tests_93 a1 a2 n l1 l2 l3 l4 w = some (r, w_) → lv_has ls 5 [(0, .ref (ad 0)), (1, .int l1), (2, .int l2), (3, .int l3), (4, .int l4)] → zE D tc lo ad zshM znnM fr w s.heap H locs → W p l e { frames := 3, cells := 0, slots := 0, locals := 73 } s m args below meth c H locs 0 0 (zZi D tc lo ad zshM znnM fr below args s r w_) (F0 m 93 ls []) := by
    intro n93
    induction n93 with
    | zero => intro l1 l2 l3 l4 w ls H locs h hl hE; rw [fX8_tests_93] at h; cases h
    | succ n93 ih93 =>
      intro l1 l2 l3 l4 w ls H locs h hl hE
      rw [fX8_tests_93] at h
      have J133 : ∀ (l1 : Int32) (l2 : Int32) (l3 : Int32) (l4 : Int32) (s1 : Int32) (s2 : Int32) (s3 : Int32) (s5 : Int32) (w : zz_W) (ls : Array Slot) (H : Heap) (locs : List Loc), fX8_tests_133 a1 a2 (fX8_tests_93 a1 a2 n93) l1 l2 l3 l4 s1 s2 s3 s5 w = some (r, w_) → lv_has ls 5 [(0, .ref (ad 0)), (1, .int l1), (2, .int l2), (3, .int l3), (4, .int l4)] → zE D tc lo ad zshM znnM fr w s.heap H locs → W p l e { frames := 3, cells := 0, slots := 0, locals := 73 } s m args below meth c H locs 0 0 (zZi D tc lo ad zshM znnM fr below args s r w_) (F0 m 133 ls [.int s5, .ref (ad 0), .int s3, .int s2, .int s1, .ref (ad 0)]) := by
        intro l1 l2 l3 l4 s1 s2 s3 s5 w ls H locs h hl hE
        unfold fX8_tests_133 at h
        refine lv_iload_n hx hb dX8_tests_133 rfl (lv_at hl 1 rfl) ?_
        obtain ⟨x92, w93, ew93, h⟩ := zbd2E h
        refine zr_i (zr_runV (As := [.int s5, .int l1]) S hX hE (kX8_oddsToBeTold l D tc lo ad fr zq s5 l1 w x92 w93 ew93) zyX8_oddsToBeTold qm_X8_158 zcl_X8 rfl (zm_0 w) ⟨rfl, rfl⟩ ⟨Nat.le_of_ble_eq_true rfl, Nat.le_of_ble_eq_true rfl⟩ rfl hl.1 rfl (Nat.le_of_ble_eq_true rfl) dX8_tests_134 ⟨Nat.zero_le _, Nat.zero_le _⟩) hE (fun H locs hE => ?_)
        refine lv_imul hx hb dX8_tests_137 ?_
        refine lv_bipush (v := 100) hx hb dX8_tests_138 (by decide) ?_
        obtain ⟨x94, ex94, h⟩ := zbdE h
        refine zr_idiv hx hb dX8_tests_140 ex94 ?_
        obtain ⟨w95, ew95, h⟩ := zbdE h
        refine zr_v (zr_runV (As := [.int s1, .int s2, .int x94]) S hX hE (kX8_put l D tc lo ad fr zq s1 s2 x94 w93 w95 ew95) zyX8_put qm_X8_85 zcl_X8 rfl (zm_0 w93) ⟨rfl, rfl⟩ ⟨Nat.le_of_ble_eq_true rfl, Nat.le_of_ble_eq_true rfl⟩ rfl hl.1 rfl (Nat.le_of_ble_eq_true rfl) dX8_tests_141 ⟨Nat.zero_le _, Nat.zero_le _⟩) hE (fun H locs hE => ?_)
        obtain ⟨x96, ex96, h⟩ := zbdE h
        refine lv_iinc (v := x96) (lv' := [(4, .int x96), (0, .ref (ad 0)), (1, .int l1), (2, .int l2), (3, .int l3)]) hx hb dX8_tests_144 hl (k := 4) rfl (zinc (k := 1) (by decide) ex96) (by decide) rfl (fun ls hl => ?_)
        refine lv_goto (tgt := 93) hx hb dX8_tests_147 (by decide) ?_
        exact ih93 l1 l2 l3 x96 w95 ls _ _ h (lv_sub hl [1, 2, 3, 4, 0] rfl) hE
      refine lv_iload hx hb dX8_tests_93 (lv_at hl 4 rfl) ?_
      refine lv_aload_n hx hb dX8_tests_95 rfl (lv_at hl 0 rfl) ?_
      refine zr_getA S hK hE zcl_X8 (zm_0 w) 0 (Nat.le_of_ble_eq_true rfl) (q := 1) rfl qf_X8_9 dX8_tests_96 ?_
      refine lv_iconst (v := 1) hx hb dX8_tests_99 (by decide) ?_
      obtain ⟨x97, ex97, h⟩ := zbdE h
      refine zr_iald S hK hE (zm_1 w) dX8_tests_100 ex97 ?_
      refine lv_icmp_ge (tgt := 150) hx hb dX8_tests_101 (by decide) (fun c98 => ?_) (fun c98 => ?_)
      · have h := zif c98 h
        refine lv_aload_n hx hb dX8_tests_150 rfl (lv_at hl 0 rfl) ?_
        refine lv_iconst (v := 4) hx hb dX8_tests_151 (by decide) ?_
        obtain ⟨x99, w100, ew100, h⟩ := zbd2E h
        refine zr_i (zr_runV (As := [.int 4]) S hX hE (kX8_sumOf l D tc lo ad fr zq 4 w x99 w100 ew100) zyX8_sumOf qm_X8_151 zcl_X8 rfl (zm_0 w) ⟨rfl, rfl⟩ ⟨Nat.le_of_ble_eq_true rfl, Nat.le_of_ble_eq_true rfl⟩ rfl hl.1 rfl (Nat.le_of_ble_eq_true rfl) dX8_tests_152 ⟨Nat.zero_le _, Nat.zero_le _⟩) hE (fun H locs hE => ?_)
        refine lv_if_ne (tgt := 207) hx hb dX8_tests_155 (by decide) (fun c101 => ?_) (fun c101 => ?_)
        · have h := zif' c101 h
          refine lv_iload_n hx hb dX8_tests_207 rfl (lv_at hl 3 rfl) ?_
          obtain ⟨x102, ex102, h⟩ := zbdE h
          obtain ⟨ezx102, enx102⟩ := zboo_in ex102
          refine zr_topi (congrArg some ezx102) ?_
          exact zr_zret S hE hr hlk enx102 h dX8_tests_208
        · have h := zif c101 h
          refine lv_aload_n hx hb dX8_tests_158 rfl (lv_at hl 0 rfl) ?_
          refine zr_getA S hK hE zcl_X8 (zm_0 w100) 0 (Nat.le_of_ble_eq_true rfl) (q := 1) rfl qf_X8_9 dX8_tests_159 ?_
          refine lv_bipush (v := 11) hx hb dX8_tests_162 (by decide) ?_
          refine lv_dup2_11 hx hb dX8_tests_164 rfl rfl ?_
          obtain ⟨x103, ex103, h⟩ := zbdE h
          refine zr_iald S hK hE (zm_1 w100) dX8_tests_165 ex103 ?_
          refine lv_iconst (v := 1) hx hb dX8_tests_166 (by decide) ?_
          refine lv_iadd hx hb dX8_tests_167 ?_
          obtain ⟨w104, ew104, h⟩ := zbdE h
          refine zr_iast S hK hE (zm_1 w100) dX8_tests_168 ew104 (fun H locs hE => ?_)
          refine lv_iconst (v := 0) hx hb dX8_tests_169 (by decide) ?_
          refine lv_istore (lv' := [(4, .int 0), (0, .ref (ad 0)), (1, .int l1), (2, .int l2), (3, .int l3)]) hx hb dX8_tests_170 hl (by decide) rfl (fun ls hl => ?_)
          exact L172 zfuel l3 0 w104 ls _ _ h (lv_sub hl [1, 4, 0] rfl) hE
      · have h := zif' c98 h
        refine lv_aload_n hx hb dX8_tests_104 rfl (lv_at hl 0 rfl) ?_
        refine lv_iload hx hb dX8_tests_105 (lv_at hl 4 rfl) ?_
        refine lv_iconst (v := 4) hx hb dX8_tests_107 (by decide) ?_
        refine lv_aload_n hx hb dX8_tests_108 rfl (lv_at hl 0 rfl) ?_
        refine lv_iload hx hb dX8_tests_109 (lv_at hl 4 rfl) ?_
        refine lv_iconst (v := 4) hx hb dX8_tests_111 (by decide) ?_
        obtain ⟨x105, w106, ew106, h⟩ := zbd2E h
        refine zr_i (zr_runV (As := [.int l4, .int 4]) S hX hE (kX8_of l D tc lo ad fr zq l4 4 w x105 w106 ew106) zyX8_of qm_X8_103 zcl_X8 rfl (zm_0 w) ⟨rfl, rfl⟩ ⟨Nat.le_of_ble_eq_true rfl, Nat.le_of_ble_eq_true rfl⟩ rfl hl.1 rfl (Nat.le_of_ble_eq_true rfl) dX8_tests_112 ⟨Nat.zero_le _, Nat.zero_le _⟩) hE (fun H locs hE => ?_)
        refine lv_aload_n hx hb dX8_tests_115 rfl (lv_at hl 0 rfl) ?_
        refine lv_aload_n hx hb dX8_tests_116 rfl (lv_at hl 0 rfl) ?_
        refine lv_iload hx hb dX8_tests_117 (lv_at hl 4 rfl) ?_
        refine lv_iload_n hx hb dX8_tests_119 rfl (lv_at hl 1 rfl) ?_
        refine lv_iload_n hx hb dX8_tests_120 rfl (lv_at hl 2 rfl) ?_
        obtain ⟨x107, w108, ew108, h⟩ := zbd2E h
        refine zr_i (zr_runV (As := [.int l4, .int l1, .int l2]) S hX hE (kX8_doesTell l D tc lo ad fr zq l4 l1 l2 w106 x107 w108 ew108) zyX8_doesTell qm_X8_143 zcl_X8 rfl (zm_0 w106) ⟨rfl, rfl⟩ ⟨Nat.le_of_ble_eq_true rfl, Nat.le_of_ble_eq_true rfl⟩ rfl hl.1 rfl (Nat.le_of_ble_eq_true rfl) dX8_tests_121 ⟨Nat.zero_le _, Nat.zero_le _⟩) hE (fun H locs hE => ?_)
        refine lv_iload_n hx hb dX8_tests_124 rfl (lv_at hl 3 rfl) ?_
        refine lv_icmp_ne (tgt := 132) hx hb dX8_tests_125 (by decide) (fun c109 => ?_) (fun c109 => ?_)
        · have h := zif' c109 h
          refine lv_iconst (v := 0) hx hb dX8_tests_132 (by decide) ?_
          exact J133 l1 l2 l3 l4 l4 4 x105 0 w108 ls _ _ h (lv_sub hl [0, 1, 2, 3, 4] rfl) hE
        · have h := zif c109 h
          refine lv_iconst (v := 1) hx hb dX8_tests_128 (by decide) ?_
          refine lv_goto (tgt := 133) hx hb dX8_tests_129 (by decide) ?_
          exact J133 l1 l2 l3 l4 l4 4 x105 1 w108 ls _ _ h (lv_sub hl [0, 1, 2, 3, 4] rfl) hE
  have J88 : ∀ (l1 : Int32) (l2 : Int32) (l3 : Int32) (s1 : Int32) (s2 : Int32) (s3 : Int32) (w : zz_W) (ls : Array Slot) (H : Heap) (locs : List Loc), fX8_tests_88 a1 a2 l1 l2 l3 s1 s2 s3 w = some (r, w_) → lv_has ls 5 [(0, .ref (ad 0)), (1, .int l1), (2, .int l2), (3, .int l3)] → zE D tc lo ad zshM znnM fr w s.heap H locs → W p l e { frames := 3, cells := 0, slots := 0, locals := 73 } s m args below meth c H locs 0 0 (zZi D tc lo ad zshM znnM fr below args s r w_) (F0 m 88 ls [.int s3, .int s2, .int s1, .ref (ad 1)]) := by
    intro l1 l2 l3 s1 s2 s3 w ls H locs h hl hE
    unfold fX8_tests_88 at h
    refine lv_iadd hx hb dX8_tests_88 ?_
    obtain ⟨w110, ew110, h⟩ := zbdE h
    refine zr_iast S hK hE (zm_1 w) dX8_tests_89 ew110 (fun H locs hE => ?_)
    refine lv_iconst (v := 0) hx hb dX8_tests_90 (by decide) ?_
    refine lv_istore (lv' := [(4, .int 0), (0, .ref (ad 0)), (1, .int l1), (2, .int l2), (3, .int l3)]) hx hb dX8_tests_91 hl (by decide) rfl (fun ls hl => ?_)
    exact L93 zfuel l1 l2 l3 0 w110 ls _ _ h (lv_sub hl [1, 2, 3, 4, 0] rfl) hE
  have J56 : ∀ (l1 : Int32) (l2 : Int32) (l3 : Int32) (w : zz_W) (ls : Array Slot) (H : Heap) (locs : List Loc), fX8_tests_56 a1 a2 l1 l2 l3 w = some (r, w_) → lv_has ls 5 [(0, .ref (ad 0)), (1, .int l1), (2, .int l2), (3, .int l3)] → zE D tc lo ad zshM znnM fr w s.heap H locs → W p l e { frames := 3, cells := 0, slots := 0, locals := 73 } s m args below meth c H locs 0 0 (zZi D tc lo ad zshM znnM fr below args s r w_) (F0 m 56 ls []) := by
    intro l1 l2 l3 w ls H locs h hl hE
    unfold fX8_tests_56 at h
    refine lv_aload_n hx hb dX8_tests_56 rfl (lv_at hl 0 rfl) ?_
    refine zr_getA S hK hE zcl_X8 (zm_0 w) 0 (Nat.le_of_ble_eq_true rfl) (q := 1) rfl qf_X8_9 dX8_tests_57 ?_
    refine lv_bipush (v := 8) hx hb dX8_tests_60 (by decide) ?_
    refine lv_dup2_11 hx hb dX8_tests_62 rfl rfl ?_
    obtain ⟨x111, ex111, h⟩ := zbdE h
    refine zr_iald S hK hE (zm_1 w) dX8_tests_63 ex111 ?_
    refine lv_iconst (v := 1) hx hb dX8_tests_64 (by decide) ?_
    refine lv_iadd hx hb dX8_tests_65 ?_
    obtain ⟨w112, ew112, h⟩ := zbdE h
    refine zr_iast S hK hE (zm_1 w) dX8_tests_66 ew112 (fun H locs hE => ?_)
    refine lv_aload_n hx hb dX8_tests_67 rfl (lv_at hl 0 rfl) ?_
    refine zr_getA S hK hE zcl_X8 (zm_0 w112) 0 (Nat.le_of_ble_eq_true rfl) (q := 1) rfl qf_X8_9 dX8_tests_68 ?_
    refine lv_bipush (v := 10) hx hb dX8_tests_71 (by decide) ?_
    refine lv_dup2_11 hx hb dX8_tests_73 rfl rfl ?_
    obtain ⟨x113, ex113, h⟩ := zbdE h
    refine zr_iald S hK hE (zm_1 w112) dX8_tests_74 ex113 ?_
    refine lv_iload_n hx hb dX8_tests_75 rfl (lv_at hl 1 rfl) ?_
    refine lv_iconst (v := 3) hx hb dX8_tests_76 (by decide) ?_
    refine lv_icmp_ne (tgt := 85) hx hb dX8_tests_77 (by decide) (fun c114 => ?_) (fun c114 => ?_)
    · have h := zif' c114 h
      refine lv_iload_n hx hb dX8_tests_85 rfl (lv_at hl 1 rfl) ?_
      refine lv_iconst (v := 1) hx hb dX8_tests_86 (by decide) ?_
      refine lv_iadd hx hb dX8_tests_87 ?_
      exact J88 l1 l2 l3 10 x113 (l1 + 1) w112 ls _ _ h (lv_sub hl [0, 1, 2, 3] rfl) hE
    · have h := zif c114 h
      refine lv_bipush (v := 9) hx hb dX8_tests_80 (by decide) ?_
      refine lv_goto (tgt := 88) hx hb dX8_tests_82 (by decide) ?_
      exact J88 l1 l2 l3 10 x113 9 w112 ls _ _ h (lv_sub hl [0, 1, 2, 3] rfl) hE
  have J44 : ∀ (l1 : Int32) (l2 : Int32) (s0 : Int32) (w : zz_W) (ls : Array Slot) (H : Heap) (locs : List Loc), fX8_tests_44 a1 a2 l1 l2 s0 w = some (r, w_) → lv_has ls 5 [(0, .ref (ad 0)), (1, .int l1), (2, .int l2)] → zE D tc lo ad zshM znnM fr w s.heap H locs → W p l e { frames := 3, cells := 0, slots := 0, locals := 73 } s m args below meth c H locs 0 0 (zZi D tc lo ad zshM znnM fr below args s r w_) (F0 m 44 ls [.int s0]) := by
    intro l1 l2 s0 w ls H locs h hl hE
    unfold fX8_tests_44 at h
    refine lv_istore_n (lv' := [(3, .int s0), (0, .ref (ad 0)), (1, .int l1), (2, .int l2)]) hx hb dX8_tests_44 rfl hl (by decide) rfl (fun ls hl => ?_)
    refine lv_aload_n hx hb dX8_tests_45 rfl (lv_at hl 1 rfl) ?_
    refine zr_getA S hK hE zcl_X8 (zm_0 w) 0 (Nat.le_of_ble_eq_true rfl) (q := 1) rfl qf_X8_9 dX8_tests_46 ?_
    refine lv_bipush (v := 9) hx hb dX8_tests_49 (by decide) ?_
    refine lv_dup2_11 hx hb dX8_tests_51 rfl rfl ?_
    obtain ⟨x115, ex115, h⟩ := zbdE h
    refine zr_iald S hK hE (zm_1 w) dX8_tests_52 ex115 ?_
    refine lv_iconst (v := 1) hx hb dX8_tests_53 (by decide) ?_
    refine lv_iadd hx hb dX8_tests_54 ?_
    obtain ⟨w116, ew116, h⟩ := zbdE h
    refine zr_iast S hK hE (zm_1 w) dX8_tests_55 ew116 (fun H locs hE => ?_)
    exact J56 l1 l2 s0 w116 ls _ _ h (lv_sub hl [1, 2, 3, 0] rfl) hE
  refine lv_aload_n hx hb dX8_tests_0 rfl (lv_at hl 0 rfl) ?_
  refine lv_aload_n hx hb dX8_tests_1 rfl (lv_at hl 0 rfl) ?_
  refine zr_getA S hK hE zcl_X8 (zm_0 w) 0 (Nat.le_of_ble_eq_true rfl) (q := 1) rfl qf_X8_9 dX8_tests_2 ?_
  refine lv_bipush (v := 12) hx hb dX8_tests_5 (by decide) ?_
  obtain ⟨x10001, ex10001, h⟩ := zbdE h
  refine zr_iald S hK hE (zm_1 w) dX8_tests_7 ex10001 ?_
  refine lv_iload_n hx hb dX8_tests_8 rfl (lv_at hl 1 rfl) ?_
  refine lv_iload_n hx hb dX8_tests_9 rfl (lv_at hl 2 rfl) ?_
  obtain ⟨x10002, w10003, ew10003, h⟩ := zbd2E h
  refine zr_i (zr_runV (As := [.int x10001, .int a1, .int a2]) S hX hE (kX8_doesTell l D tc lo ad fr zq x10001 a1 a2 w x10002 w10003 ew10003) zyX8_doesTell qm_X8_143 zcl_X8 rfl (zm_0 w) ⟨rfl, rfl⟩ ⟨Nat.le_of_ble_eq_true rfl, Nat.le_of_ble_eq_true rfl⟩ rfl hl.1 rfl (Nat.le_of_ble_eq_true rfl) dX8_tests_10 ⟨Nat.zero_le _, Nat.zero_le _⟩) hE (fun H locs hE => ?_)
  refine lv_istore_n (lv' := [(3, .int x10002), (0, .ref (ad 0)), (1, .int a1), (2, .int a2)]) hx hb dX8_tests_13 rfl hl (by decide) rfl (fun ls hl => ?_)
  refine lv_iload_n hx hb dX8_tests_14 rfl (lv_at hl 2 rfl) ?_
  refine lv_iconst (v := 3) hx hb dX8_tests_15 (by decide) ?_
  refine lv_icmp_eq (tgt := 56) hx hb dX8_tests_16 (by decide) (fun c10004 => ?_) (fun c10004 => ?_)
  · have h := zif c10004 h
    exact J56 a1 a2 x10002 w10003 ls _ _ h (lv_sub hl [1, 2, 3, 0] rfl) hE
  · have h := zif' c10004 h
    refine lv_aload_n hx hb dX8_tests_19 rfl (lv_at hl 1 rfl) ?_
    obtain ⟨x10005, w10006, ew10006, h⟩ := zbd2E h
    refine zr_i (zr_runV (As := []) S hX hE (kX8_draw l D tc lo ad fr zq w10003 x10005 w10006 ew10006) zyX8_draw qm_X8_147 zcl_X8 rfl (zm_0 w10003) ⟨rfl, rfl⟩ ⟨Nat.le_of_ble_eq_true rfl, Nat.le_of_ble_eq_true rfl⟩ rfl hl.1 rfl (Nat.le_of_ble_eq_true rfl) dX8_tests_20 ⟨Nat.zero_le _, Nat.zero_le _⟩) hE (fun H locs hE => ?_)
    refine lv_bipush (v := 100) hx hb dX8_tests_23 (by decide) ?_
    obtain ⟨x10007, ex10007, h⟩ := zbdE h
    refine zr_irem hx hb dX8_tests_25 ex10007 ?_
    refine lv_aload_n hx hb dX8_tests_26 rfl (lv_at hl 1 rfl) ?_
    refine zr_getA S hK hE zcl_X8 (zm_0 w10006) 0 (Nat.le_of_ble_eq_true rfl) (q := 1) rfl qf_X8_9 dX8_tests_27 ?_
    refine lv_iconst (v := 3) hx hb dX8_tests_30 (by decide) ?_
    obtain ⟨x10008, ex10008, h⟩ := zbdE h
    refine zr_iald S hK hE (zm_1 w10006) dX8_tests_31 ex10008 ?_
    refine lv_icmp_ge (tgt := 56) hx hb dX8_tests_32 (by decide) (fun c10009 => ?_) (fun c10009 => ?_)
    · have h := zif c10009 h
      exact J56 a1 a2 x10002 w10006 ls _ _ h (lv_sub hl [1, 2, 3, 0] rfl) hE
    · have h := zif' c10009 h
      refine lv_iload_n hx hb dX8_tests_35 rfl (lv_at hl 0 rfl) ?_
      refine lv_if_ne (tgt := 43) hx hb dX8_tests_36 (by decide) (fun c10010 => ?_) (fun c10010 => ?_)
      · have h := zif' c10010 h
        refine lv_iconst (v := 0) hx hb dX8_tests_43 (by decide) ?_
        exact J44 a1 a2 0 w10006 ls _ _ h (lv_sub hl [1, 2, 3] rfl) hE
      · have h := zif c10010 h
        refine lv_iconst (v := 1) hx hb dX8_tests_39 (by decide) ?_
        refine lv_goto (tgt := 44) hx hb dX8_tests_40 (by decide) ?_
        exact J44 a1 a2 1 w10006 ls _ _ h (lv_sub hl [1, 2, 3] rfl) hE
set_option maxHeartbeats 4000000 in
set_option maxRecDepth 100000 in
theorem kX8_step (l : Launch) (D : va_G) (tc : Nat → ClassId) (lo : Nat) (ad : Nat → Nat) (fr : va_W) (zq : zz_Q) (w : zz_W) (w_ : zz_W) (h : fX8_step w = some w_) : zMv l yX8_step cX8_step 3 none { frames := 4, cells := 0, slots := 0, locals := 97 } D tc lo ad zshM znnM fr zq [.ref (ad 0)] w w_ := by
  refine zr_entry (by decide) (Nat.le_of_ble_eq_true rfl) fun p e s m args below meth c ls S hX hr hlk hE hl => ?_
  have S : CallFix p m c cX8_step 3 s args (Cond.code yX8_step cX8_step 3 none :: zw_tb) RX8 := S
  have hx := S.1
  have hb := S.2.1
  have hK := hX.2.1
  have hl : lv_has ls 3 [(0, .ref (ad 0))] := hl
  unfold fX8_step at h
  have J46 : ∀ (w : zz_W) (ls : Array Slot) (H : Heap) (locs : List Loc), fX8_step_46 w = some w_ → lv_has ls 3 [(0, .ref (ad 0))] → zE D tc lo ad zshM znnM fr w s.heap H locs → W p l e { frames := 4, cells := 0, slots := 0, locals := 97 } s m args below meth c H locs 0 0 (zZv D tc lo ad zshM znnM fr below args s w_) (F0 m 46 ls []) := by
    intro w ls H locs h hl hE
    unfold fX8_step_46 at h
    refine lv_aload_n hx hb dX8_step_46 rfl (lv_at hl 0 rfl) ?_
    refine zr_getA S hK hE zcl_X8 (zm_0 w) 0 (Nat.le_of_ble_eq_true rfl) (q := 1) rfl qf_X8_9 dX8_step_47 ?_
    refine lv_iconst (v := 2) hx hb dX8_step_50 (by decide) ?_
    refine lv_dup2_11 hx hb dX8_step_51 rfl rfl ?_
    obtain ⟨x31, ex31, h⟩ := zbdE h
    refine zr_iald S hK hE (zm_1 w) dX8_step_52 ex31 ?_
    refine lv_iconst (v := 1) hx hb dX8_step_53 (by decide) ?_
    refine lv_iadd hx hb dX8_step_54 ?_
    obtain ⟨w32, ew32, h⟩ := zbdE h
    refine zr_iast S hK hE (zm_1 w) dX8_step_55 ew32 (fun H locs hE => ?_)
    exact zr_vret S hE hr hlk h dX8_step_56
  refine lv_aload_n hx hb dX8_step_0 rfl (lv_at hl 0 rfl) ?_
  refine zr_getA S hK hE zcl_X8 (zm_0 w) 0 (Nat.le_of_ble_eq_true rfl) (q := 1) rfl qf_X8_9 dX8_step_1 ?_
  refine lv_iconst (v := 1) hx hb dX8_step_4 (by decide) ?_
  obtain ⟨x10001, ex10001, h⟩ := zbdE h
  refine zr_iald S hK hE (zm_1 w) dX8_step_5 ex10001 ?_
  refine lv_if_le (tgt := 46) hx hb dX8_step_6 (by decide) (fun c10002 => ?_) (fun c10002 => ?_)
  · have h := zif c10002 h
    exact J46 w ls _ _ h (lv_sub hl [0] rfl) hE
  · have h := zif' c10002 h
    refine lv_aload_n hx hb dX8_step_9 rfl (lv_at hl 0 rfl) ?_
    refine zr_getA S hK hE zcl_X8 (zm_0 w) 0 (Nat.le_of_ble_eq_true rfl) (q := 1) rfl qf_X8_9 dX8_step_10 ?_
    refine lv_bipush (v := 12) hx hb dX8_step_13 (by decide) ?_
    obtain ⟨x10003, ex10003, h⟩ := zbdE h
    refine zr_iald S hK hE (zm_1 w) dX8_step_15 ex10003 ?_
    refine lv_if_ge (tgt := 26) hx hb dX8_step_16 (by decide) (fun c10004 => ?_) (fun c10004 => ?_)
    · have h := zif c10004 h
      refine lv_aload_n hx hb dX8_step_26 rfl (lv_at hl 0 rfl) ?_
      obtain ⟨x10005, w10006, ew10006, h⟩ := zbd2E h
      refine zr_i (zr_runV (As := []) S hX hE (kX8_draw l D tc lo ad fr zq w x10005 w10006 ew10006) zyX8_draw qm_X8_147 zcl_X8 rfl (zm_0 w) ⟨rfl, rfl⟩ ⟨Nat.le_of_ble_eq_true rfl, Nat.le_of_ble_eq_true rfl⟩ rfl hl.1 rfl (Nat.le_of_ble_eq_true rfl) dX8_step_27 ⟨Nat.zero_le _, Nat.zero_le _⟩) hE (fun H locs hE => ?_)
      refine lv_iconst (v := 4) hx hb dX8_step_30 (by decide) ?_
      obtain ⟨x10007, ex10007, h⟩ := zbdE h
      refine zr_irem hx hb dX8_step_31 ex10007 ?_
      refine lv_istore_n (lv' := [(1, .int x10007), (0, .ref (ad 0))]) hx hb dX8_step_32 rfl hl (by decide) rfl (fun ls hl => ?_)
      refine lv_aload_n hx hb dX8_step_33 rfl (lv_at hl 1 rfl) ?_
      refine lv_iload_n hx hb dX8_step_34 rfl (lv_at hl 0 rfl) ?_
      refine lv_aload_n hx hb dX8_step_35 rfl (lv_at hl 1 rfl) ?_
      obtain ⟨x10008, w10009, ew10009, h⟩ := zbd2E h
      refine zr_i (zr_runV (As := []) S hX hE (kX8_draw l D tc lo ad fr zq w10006 x10008 w10009 ew10009) zyX8_draw qm_X8_147 zcl_X8 rfl (zm_0 w10006) ⟨rfl, rfl⟩ ⟨Nat.le_of_ble_eq_true rfl, Nat.le_of_ble_eq_true rfl⟩ rfl hl.1 rfl (Nat.le_of_ble_eq_true rfl) dX8_step_36 ⟨Nat.zero_le _, Nat.zero_le _⟩) hE (fun H locs hE => ?_)
      refine lv_bipush (v := 36) hx hb dX8_step_39 (by decide) ?_
      obtain ⟨x10010, ex10010, h⟩ := zbdE h
      refine zr_irem hx hb dX8_step_41 ex10010 ?_
      obtain ⟨x10011, w10012, ew10012, h⟩ := zbd2E h
      refine zr_i (zr_runV (As := [.int x10007, .int x10010]) S hX hE (kX8_tests l D tc lo ad fr zq x10007 x10010 w10009 x10011 w10012 ew10012) zyX8_tests qm_X8_162 zcl_X8 rfl (zm_0 w10009) ⟨rfl, rfl⟩ ⟨Nat.le_of_ble_eq_true rfl, Nat.le_of_ble_eq_true rfl⟩ rfl hl.1 rfl (Nat.le_of_ble_eq_true rfl) dX8_step_42 ⟨Nat.zero_le _, Nat.zero_le _⟩) hE (fun H locs hE => ?_)
      refine lv_istore_n (lv' := [(2, .int x10011), (1, .int x10007), (0, .ref (ad 0))]) hx hb dX8_step_45 rfl hl (by decide) rfl (fun ls hl => ?_)
      exact J46 w10012 ls _ _ h (lv_sub hl [2] rfl) hE
    · have h := zif' c10004 h
      refine lv_aload_n hx hb dX8_step_19 rfl (lv_at hl 0 rfl) ?_
      obtain ⟨w10013, ew10013, h⟩ := zbdE h
      refine zr_v (zr_runV (As := []) S hX hE (kX8_builds l D tc lo ad fr zq w w10013 ew10013) zyX8_builds qm_X8_155 zcl_X8 rfl (zm_0 w) ⟨rfl, rfl⟩ ⟨Nat.le_of_ble_eq_true rfl, Nat.le_of_ble_eq_true rfl⟩ rfl hl.1 rfl (Nat.le_of_ble_eq_true rfl) dX8_step_20 ⟨Nat.zero_le _, Nat.zero_le _⟩) hE (fun H locs hE => ?_)
      refine lv_goto (tgt := 46) hx hb dX8_step_23 (by decide) ?_
      exact J46 w10013 ls _ _ h (lv_sub hl [0] rfl) hE
set_option maxHeartbeats 4000000 in
set_option maxRecDepth 100000 in
theorem kX8_goesOn (l : Launch) (D : va_G) (tc : Nat → ClassId) (lo : Nat) (ad : Nat → Nat) (fr : va_W) (zq : zz_Q) (a1 : Int32) (w : zz_W) (w_ : zz_W) (h : fX8_goesOn a1 w = some w_) : zMv l yX8_goesOn cX8_goesOn 3 none { frames := 5, cells := 0, slots := 0, locals := 119 } D tc lo ad zshM znnM fr zq [.ref (ad 0), .int a1] w w_ := by
  refine zr_entry (by decide) (Nat.le_of_ble_eq_true rfl) fun p e s m args below meth c ls S hX hr hlk hE hl => ?_
  have S : CallFix p m c cX8_goesOn 3 s args (Cond.code yX8_goesOn cX8_goesOn 3 none :: zw_tb) RX8 := S
  have hx := S.1
  have hb := S.2.1
  have hK := hX.2.1
  have hl : lv_has ls 3 [(0, .ref (ad 0)), (1, .int a1)] := hl
  unfold fX8_goesOn at h
  have L2 : ∀ (n : Nat) (l1 : Int32) (l2 : Int32) (w : zz_W) (ls : Array Slot) (H : Heap) (locs : List Loc), fX8_goesOn_2 a1 n l1 l2 w = some w_ → lv_has ls 3 [(0, .ref (ad 0)), (1, .int l1), (2, .int l2)] → zE D tc lo ad zshM znnM fr w s.heap H locs → W p l e { frames := 5, cells := 0, slots := 0, locals := 119 } s m args below meth c H locs 0 0 (zZv D tc lo ad zshM znnM fr below args s w_) (F0 m 2 ls []) := by
    intro n2
    induction n2 with
    | zero => intro l1 l2 w ls H locs h hl hE; rw [fX8_goesOn_2] at h; cases h
    | succ n2 ih2 =>
      intro l1 l2 w ls H locs h hl hE
      rw [fX8_goesOn_2] at h
      refine lv_iload_n hx hb dX8_goesOn_2 rfl (lv_at hl 2 rfl) ?_
      refine lv_iload_n hx hb dX8_goesOn_3 rfl (lv_at hl 1 rfl) ?_
      refine lv_icmp_ge (tgt := 17) hx hb dX8_goesOn_4 (by decide) (fun c7 => ?_) (fun c7 => ?_)
      · have h := zif c7 h
        exact zr_vret S hE hr hlk h dX8_goesOn_17
      · have h := zif' c7 h
        refine lv_aload_n hx hb dX8_goesOn_7 rfl (lv_at hl 0 rfl) ?_
        obtain ⟨w8, ew8, h⟩ := zbdE h
        refine zr_v (zr_runV (As := []) S hX hE (kX8_step l D tc lo ad fr zq w w8 ew8) zyX8_step qm_X8_165 zcl_X8 rfl (zm_0 w) ⟨rfl, rfl⟩ ⟨Nat.le_of_ble_eq_true rfl, Nat.le_of_ble_eq_true rfl⟩ rfl hl.1 rfl (Nat.le_of_ble_eq_true rfl) dX8_goesOn_8 ⟨Nat.zero_le _, Nat.zero_le _⟩) hE (fun H locs hE => ?_)
        obtain ⟨x9, ex9, h⟩ := zbdE h
        refine lv_iinc (v := x9) (lv' := [(2, .int x9), (0, .ref (ad 0)), (1, .int l1)]) hx hb dX8_goesOn_11 hl (k := 2) rfl (zinc (k := 1) (by decide) ex9) (by decide) rfl (fun ls hl => ?_)
        refine lv_goto (tgt := 2) hx hb dX8_goesOn_14 (by decide) ?_
        exact ih2 l1 x9 w8 ls _ _ h (lv_sub hl [1, 2, 0] rfl) hE
  refine lv_iconst (v := 0) hx hb dX8_goesOn_0 (by decide) ?_
  refine lv_istore_n (lv' := [(2, .int 0), (0, .ref (ad 0)), (1, .int a1)]) hx hb dX8_goesOn_1 rfl hl (by decide) rfl (fun ls hl => ?_)
  exact L2 zfuel a1 0 w ls _ _ h (lv_sub hl [1, 2, 0] rfl) hE
set_option maxHeartbeats 4000000 in
set_option maxRecDepth 100000 in
theorem kX8_greatest (l : Launch) (D : va_G) (tc : Nat → ClassId) (lo : Nat) (ad : Nat → Nat) (fr : va_W) (zq : zz_Q) (w : zz_W) (r : Int32) (w_ : zz_W) (h : fX8_greatest w = some (r, w_)) : zMi l yX8_greatest cX8_greatest 3 (some .int) { frames := 1, cells := 0, slots := 0, locals := 22 } D tc lo ad zshM znnM fr zq [.ref (ad 0)] w r w_ := by
  refine zr_entry (by decide) (Nat.le_of_ble_eq_true rfl) fun p e s m args below meth c ls S hX hr hlk hE hl => ?_
  have S : CallFix p m c cX8_greatest 3 s args (Cond.code yX8_greatest cX8_greatest 3 (some .int) :: zw_tb) RX8 := S
  have hx := S.1
  have hb := S.2.1
  have hK := hX.2.1
  have hl : lv_has ls 3 [(0, .ref (ad 0))] := hl
  unfold fX8_greatest at h
  have L4 : ∀ (n : Nat) (l1 : Int32) (l2 : Int32) (w : zz_W) (ls : Array Slot) (H : Heap) (locs : List Loc), fX8_greatest_4 n l1 l2 w = some (r, w_) → lv_has ls 3 [(0, .ref (ad 0)), (1, .int l1), (2, .int l2)] → zE D tc lo ad zshM znnM fr w s.heap H locs → W p l e { frames := 1, cells := 0, slots := 0, locals := 22 } s m args below meth c H locs 0 0 (zZi D tc lo ad zshM znnM fr below args s r w_) (F0 m 4 ls []) := by
    intro n4
    induction n4 with
    | zero => intro l1 l2 w ls H locs h hl hE; rw [fX8_greatest_4] at h; cases h
    | succ n4 ih4 =>
      intro l1 l2 w ls H locs h hl hE
      rw [fX8_greatest_4] at h
      refine lv_iload_n hx hb dX8_greatest_4 rfl (lv_at hl 2 rfl) ?_
      refine lv_aload_n hx hb dX8_greatest_5 rfl (lv_at hl 0 rfl) ?_
      refine zr_getA S hK hE zcl_X8 (zm_0 w) 0 (Nat.le_of_ble_eq_true rfl) (q := 1) rfl qf_X8_9 dX8_greatest_6 ?_
      refine lv_iconst (v := 1) hx hb dX8_greatest_9 (by decide) ?_
      obtain ⟨x25, ex25, h⟩ := zbdE h
      refine zr_iald S hK hE (zm_1 w) dX8_greatest_10 ex25 ?_
      refine lv_icmp_ge (tgt := 45) hx hb dX8_greatest_11 (by decide) (fun c26 => ?_) (fun c26 => ?_)
      · have h := zif c26 h
        refine lv_iload_n hx hb dX8_greatest_45 rfl (lv_at hl 1 rfl) ?_
        exact zr_iret S hE hr hlk h dX8_greatest_46
      · have h := zif' c26 h
        refine lv_iload_n hx hb dX8_greatest_14 rfl (lv_at hl 1 rfl) ?_
        refine lv_if_lt (tgt := 33) hx hb dX8_greatest_15 (by decide) (fun c27 => ?_) (fun c27 => ?_)
        · have h := zif c27 h
          refine lv_iload_n hx hb dX8_greatest_33 rfl (lv_at hl 2 rfl) ?_
          refine lv_goto (tgt := 38) hx hb dX8_greatest_34 (by decide) ?_
          refine lv_istore_n (lv' := [(1, .int l2), (0, .ref (ad 0)), (2, .int l2)]) hx hb dX8_greatest_38 rfl hl (by decide) rfl (fun ls hl => ?_)
          obtain ⟨x28, ex28, h⟩ := zbdE h
          refine lv_iinc (v := x28) (lv' := [(2, .int x28), (1, .int l2), (0, .ref (ad 0))]) hx hb dX8_greatest_39 hl (k := 2) rfl (zinc (k := 1) (by decide) ex28) (by decide) rfl (fun ls hl => ?_)
          refine lv_goto (tgt := 4) hx hb dX8_greatest_42 (by decide) ?_
          exact ih4 l2 x28 w ls _ _ h (lv_sub hl [2, 1, 0] rfl) hE
        · have h := zif' c27 h
          refine lv_aload_n hx hb dX8_greatest_18 rfl (lv_at hl 0 rfl) ?_
          refine lv_iload_n hx hb dX8_greatest_19 rfl (lv_at hl 2 rfl) ?_
          refine lv_iconst (v := 4) hx hb dX8_greatest_20 (by decide) ?_
          obtain ⟨x29, w30, ew30, h⟩ := zbd2E h
          refine zr_i (zr_runV (As := [.int l2, .int 4]) S hX hE (kX8_of l D tc lo ad fr zq l2 4 w x29 w30 ew30) zyX8_of qm_X8_103 zcl_X8 rfl (zm_0 w) ⟨rfl, rfl⟩ ⟨Nat.le_of_ble_eq_true rfl, Nat.le_of_ble_eq_true rfl⟩ rfl hl.1 rfl (Nat.le_of_ble_eq_true rfl) dX8_greatest_21 ⟨Nat.zero_le _, Nat.zero_le _⟩) hE (fun H locs hE => ?_)
          refine lv_aload_n hx hb dX8_greatest_24 rfl (lv_at hl 0 rfl) ?_
          refine lv_iload_n hx hb dX8_greatest_25 rfl (lv_at hl 1 rfl) ?_
          refine lv_iconst (v := 4) hx hb dX8_greatest_26 (by decide) ?_
          obtain ⟨x31, w32, ew32, h⟩ := zbd2E h
          refine zr_i (zr_runV (As := [.int l1, .int 4]) S hX hE (kX8_of l D tc lo ad fr zq l1 4 w30 x31 w32 ew32) zyX8_of qm_X8_103 zcl_X8 rfl (zm_0 w30) ⟨rfl, rfl⟩ ⟨Nat.le_of_ble_eq_true rfl, Nat.le_of_ble_eq_true rfl⟩ rfl hl.1 rfl (Nat.le_of_ble_eq_true rfl) dX8_greatest_27 ⟨Nat.zero_le _, Nat.zero_le _⟩) hE (fun H locs hE => ?_)
          refine lv_icmp_le (tgt := 37) hx hb dX8_greatest_30 (by decide) (fun c33 => ?_) (fun c33 => ?_)
          · have h := zif c33 h
            refine lv_iload_n hx hb dX8_greatest_37 rfl (lv_at hl 1 rfl) ?_
            refine lv_istore_n (lv' := [(1, .int l1), (0, .ref (ad 0)), (2, .int l2)]) hx hb dX8_greatest_38 rfl hl (by decide) rfl (fun ls hl => ?_)
            obtain ⟨x34, ex34, h⟩ := zbdE h
            refine lv_iinc (v := x34) (lv' := [(2, .int x34), (1, .int l1), (0, .ref (ad 0))]) hx hb dX8_greatest_39 hl (k := 2) rfl (zinc (k := 1) (by decide) ex34) (by decide) rfl (fun ls hl => ?_)
            refine lv_goto (tgt := 4) hx hb dX8_greatest_42 (by decide) ?_
            exact ih4 l1 x34 w32 ls _ _ h (lv_sub hl [2, 1, 0] rfl) hE
          · have h := zif' c33 h
            refine lv_iload_n hx hb dX8_greatest_33 rfl (lv_at hl 2 rfl) ?_
            refine lv_goto (tgt := 38) hx hb dX8_greatest_34 (by decide) ?_
            refine lv_istore_n (lv' := [(1, .int l2), (0, .ref (ad 0)), (2, .int l2)]) hx hb dX8_greatest_38 rfl hl (by decide) rfl (fun ls hl => ?_)
            obtain ⟨x35, ex35, h⟩ := zbdE h
            refine lv_iinc (v := x35) (lv' := [(2, .int x35), (1, .int l2), (0, .ref (ad 0))]) hx hb dX8_greatest_39 hl (k := 2) rfl (zinc (k := 1) (by decide) ex35) (by decide) rfl (fun ls hl => ?_)
            refine lv_goto (tgt := 4) hx hb dX8_greatest_42 (by decide) ?_
            exact ih4 l2 x35 w32 ls _ _ h (lv_sub hl [2, 1, 0] rfl) hE
  refine lv_iconst (v := (-1)) hx hb dX8_greatest_0 (by decide) ?_
  obtain ⟨x10001, ex10001, h⟩ := zbdE h
  refine zr_topi ex10001 ?_
  refine lv_istore_n (lv' := [(1, .int x10001), (0, .ref (ad 0))]) hx hb dX8_greatest_1 rfl hl (by decide) rfl (fun ls hl => ?_)
  refine lv_iconst (v := 0) hx hb dX8_greatest_2 (by decide) ?_
  refine lv_istore_n (lv' := [(2, .int 0), (1, .int x10001), (0, .ref (ad 0))]) hx hb dX8_greatest_3 rfl hl (by decide) rfl (fun ls hl => ?_)
  exact L4 zfuel x10001 0 w ls _ _ h (lv_sub hl [2, 1, 0] rfl) hE
set_option maxHeartbeats 4000000 in
set_option maxRecDepth 100000 in
theorem kX8_orNothing (l : Launch) (D : va_G) (tc : Nat → ClassId) (lo : Nat) (ad : Nat → Nat) (fr : va_W) (zq : zz_Q) (a1 : Int32) (w : zz_W) (r : Int32) (w_ : zz_W) (h : fX8_orNothing a1 w = some (r, w_)) : zMi l yX8_orNothing cX8_orNothing 1 (some .int) { frames := 0, cells := 0, slots := 0, locals := 0 } D tc lo ad zshM znnM fr zq [.int a1] w r w_ := by
  refine zr_entry (by decide) (Nat.le_of_ble_eq_true rfl) fun p e s m args below meth c ls S hX hr hlk hE hl => ?_
  have S : CallFix p m c cX8_orNothing 1 s args (Cond.code yX8_orNothing cX8_orNothing 1 (some .int) :: zw_tb) RX8 := S
  have hx := S.1
  have hb := S.2.1
  have hK := hX.2.1
  have hl : lv_has ls 1 [(0, .int a1)] := hl
  unfold fX8_orNothing at h
  refine lv_iload_n hx hb dX8_orNothing_0 rfl (lv_at hl 0 rfl) ?_
  refine lv_if_ge (tgt := 9) hx hb dX8_orNothing_1 (by decide) (fun c10001 => ?_) (fun c10001 => ?_)
  · have h := zif c10001 h
    refine lv_iload_n hx hb dX8_orNothing_9 rfl (lv_at hl 0 rfl) ?_
    exact zr_iret S hE hr hlk h dX8_orNothing_10
  · have h := zif' c10001 h
    refine zr_ldc S qc_X8_176 dX8_orNothing_4 ?_
    refine lv_goto (tgt := 10) hx hb dX8_orNothing_6 (by decide) ?_
    exact zr_iret S hE hr hlk h dX8_orNothing_10
set_option maxHeartbeats 4000000 in
set_option maxRecDepth 100000 in
theorem kX8_putsBack (l : Launch) (D : va_G) (tc : Nat → ClassId) (lo : Nat) (ad : Nat → Nat) (fr : va_W) (zq : zz_Q) (w : zz_W) (w_ : zz_W) (h : fX8_putsBack w = some w_) : zMv l yX8_putsBack cX8_putsBack 2 none { frames := 0, cells := 0, slots := 0, locals := 0 } D tc lo ad zshM znnM fr zq [.ref (ad 0)] w w_ := by
  refine zr_entry (by decide) (Nat.le_of_ble_eq_true rfl) fun p e s m args below meth c ls S hX hr hlk hE hl => ?_
  have S : CallFix p m c cX8_putsBack 2 s args (Cond.code yX8_putsBack cX8_putsBack 2 none :: zw_tb) RX8 := S
  have hx := S.1
  have hb := S.2.1
  have hK := hX.2.1
  have hl : lv_has ls 2 [(0, .ref (ad 0))] := hl
  unfold fX8_putsBack at h
  have L2 : ∀ (n : Nat) (l1 : Int32) (w : zz_W) (ls : Array Slot) (H : Heap) (locs : List Loc), fX8_putsBack_2 n l1 w = some w_ → lv_has ls 2 [(0, .ref (ad 0)), (1, .int l1)] → zE D tc lo ad zshM znnM fr w s.heap H locs → W p l e { frames := 0, cells := 0, slots := 0, locals := 0 } s m args below meth c H locs 0 0 (zZv D tc lo ad zshM znnM fr below args s w_) (F0 m 2 ls []) := by
    intro n2
    induction n2 with
    | zero => intro l1 w ls H locs h hl hE; rw [fX8_putsBack_2] at h; cases h
    | succ n2 ih2 =>
      intro l1 w ls H locs h hl hE
      rw [fX8_putsBack_2] at h
      refine lv_iload_n hx hb dX8_putsBack_2 rfl (lv_at hl 1 rfl) ?_
      refine lv_bipush (v := 64) hx hb dX8_putsBack_3 (by decide) ?_
      refine lv_icmp_ge (tgt := 26) hx hb dX8_putsBack_5 (by decide) (fun c9 => ?_) (fun c9 => ?_)
      · have h := zif c9 h
        exact zr_vret S hE hr hlk h dX8_putsBack_26
      · have h := zif' c9 h
        refine lv_aload_n hx hb dX8_putsBack_8 rfl (lv_at hl 0 rfl) ?_
        refine zr_getA S hK hE zcl_X8 (zm_0 w) 0 (Nat.le_of_ble_eq_true rfl) (q := 1) rfl qf_X8_9 dX8_putsBack_9 ?_
        refine lv_iload_n hx hb dX8_putsBack_12 rfl (lv_at hl 1 rfl) ?_
        refine lv_aload_n hx hb dX8_putsBack_13 rfl (lv_at hl 0 rfl) ?_
        refine zr_getA S hK hE zcl_X8 (zm_0 w) 6 (Nat.le_of_ble_eq_true rfl) (q := 6) rfl qf_X8_25 dX8_putsBack_14 ?_
        refine lv_iload_n hx hb dX8_putsBack_17 rfl (lv_at hl 1 rfl) ?_
        obtain ⟨x10, ex10, h⟩ := zbdE h
        refine zr_iald S hK hE (zm_6 w) dX8_putsBack_18 ex10 ?_
        obtain ⟨w11, ew11, h⟩ := zbdE h
        refine zr_iast S hK hE (zm_1 w) dX8_putsBack_19 ew11 (fun H locs hE => ?_)
        obtain ⟨x12, ex12, h⟩ := zbdE h
        refine lv_iinc (v := x12) (lv' := [(1, .int x12), (0, .ref (ad 0))]) hx hb dX8_putsBack_20 hl (k := 1) rfl (zinc (k := 1) (by decide) ex12) (by decide) rfl (fun ls hl => ?_)
        refine lv_goto (tgt := 2) hx hb dX8_putsBack_23 (by decide) ?_
        exact ih2 x12 w11 ls _ _ h (lv_sub hl [1, 0] rfl) hE
  refine lv_iconst (v := 0) hx hb dX8_putsBack_0 (by decide) ?_
  refine lv_istore_n (lv' := [(1, .int 0), (0, .ref (ad 0))]) hx hb dX8_putsBack_1 rfl hl (by decide) rfl (fun ls hl => ?_)
  exact L2 zfuel 0 w ls _ _ h (lv_sub hl [1, 0] rfl) hE
set_option maxHeartbeats 4000000 in
set_option maxRecDepth 100000 in
theorem kX8_thinks (l : Launch) (D : va_G) (tc : Nat → ClassId) (lo : Nat) (ad : Nat → Nat) (fr : va_W) (zq : zz_Q) (w : zz_W) (w_ : zz_W) (h : fX8_thinks w = some w_) : zMv l yX8_thinks cX8_thinks 2 none { frames := 0, cells := 0, slots := 0, locals := 0 } D tc lo ad zshM znnM fr zq [.ref (ad 0)] w w_ := by
  refine zr_entry (by decide) (Nat.le_of_ble_eq_true rfl) fun p e s m args below meth c ls S hX hr hlk hE hl => ?_
  have S : CallFix p m c cX8_thinks 2 s args (Cond.code yX8_thinks cX8_thinks 2 none :: zw_tb) RX8 := S
  have hx := S.1
  have hb := S.2.1
  have hK := hX.2.1
  have hl : lv_has ls 2 [(0, .ref (ad 0))] := hl
  unfold fX8_thinks at h
  have L2 : ∀ (n : Nat) (l1 : Int32) (w : zz_W) (ls : Array Slot) (H : Heap) (locs : List Loc), fX8_thinks_2 n l1 w = some w_ → lv_has ls 2 [(0, .ref (ad 0)), (1, .int l1)] → zE D tc lo ad zshM znnM fr w s.heap H locs → W p l e { frames := 0, cells := 0, slots := 0, locals := 0 } s m args below meth c H locs 0 0 (zZv D tc lo ad zshM znnM fr below args s w_) (F0 m 2 ls []) := by
    intro n2
    induction n2 with
    | zero => intro l1 w ls H locs h hl hE; rw [fX8_thinks_2] at h; cases h
    | succ n2 ih2 =>
      intro l1 w ls H locs h hl hE
      rw [fX8_thinks_2] at h
      refine lv_iload_n hx hb dX8_thinks_2 rfl (lv_at hl 1 rfl) ?_
      refine lv_bipush (v := 64) hx hb dX8_thinks_3 (by decide) ?_
      refine lv_icmp_ge (tgt := 26) hx hb dX8_thinks_5 (by decide) (fun c9 => ?_) (fun c9 => ?_)
      · have h := zif c9 h
        exact zr_vret S hE hr hlk h dX8_thinks_26
      · have h := zif' c9 h
        refine lv_aload_n hx hb dX8_thinks_8 rfl (lv_at hl 0 rfl) ?_
        refine zr_getA S hK hE zcl_X8 (zm_0 w) 6 (Nat.le_of_ble_eq_true rfl) (q := 6) rfl qf_X8_25 dX8_thinks_9 ?_
        refine lv_iload_n hx hb dX8_thinks_12 rfl (lv_at hl 1 rfl) ?_
        refine lv_aload_n hx hb dX8_thinks_13 rfl (lv_at hl 0 rfl) ?_
        refine zr_getA S hK hE zcl_X8 (zm_0 w) 0 (Nat.le_of_ble_eq_true rfl) (q := 1) rfl qf_X8_9 dX8_thinks_14 ?_
        refine lv_iload_n hx hb dX8_thinks_17 rfl (lv_at hl 1 rfl) ?_
        obtain ⟨x10, ex10, h⟩ := zbdE h
        refine zr_iald S hK hE (zm_1 w) dX8_thinks_18 ex10 ?_
        obtain ⟨w11, ew11, h⟩ := zbdE h
        refine zr_iast S hK hE (zm_6 w) dX8_thinks_19 ew11 (fun H locs hE => ?_)
        obtain ⟨x12, ex12, h⟩ := zbdE h
        refine lv_iinc (v := x12) (lv' := [(1, .int x12), (0, .ref (ad 0))]) hx hb dX8_thinks_20 hl (k := 1) rfl (zinc (k := 1) (by decide) ex12) (by decide) rfl (fun ls hl => ?_)
        refine lv_goto (tgt := 2) hx hb dX8_thinks_23 (by decide) ?_
        exact ih2 x12 w11 ls _ _ h (lv_sub hl [1, 0] rfl) hE
  refine lv_iconst (v := 0) hx hb dX8_thinks_0 (by decide) ?_
  refine lv_istore_n (lv' := [(1, .int 0), (0, .ref (ad 0))]) hx hb dX8_thinks_1 rfl hl (by decide) rfl (fun ls hl => ?_)
  exact L2 zfuel 0 w ls _ _ h (lv_sub hl [1, 0] rfl) hE
