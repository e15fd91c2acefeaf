set_option maxHeartbeats 4000000 in
set_option maxRecDepth 100000 in
theorem kX7_as (l : Launch) (D : va_G) (tc : Nat → ClassId) (lo : Nat) (ad : Nat → Nat) (fr : va_W) (zq : zz_Q) (a1 : Int32) (a2 : Int32) (w : zz_W) (r : Int32) (w_ : zz_W) (h : fX7_as a1 a2 w = some (r, w_)) : zMi l yX7_as cX7_as 3 (some .int) { frames := 3, cells := 0, slots := 0, locals := 65 } D tc lo ad zshC znnC fr zq [.ref (ad 0), .int a1, .int a2] w r w_ := by
  refine zr_entry (by decide) (Nat.le_of_ble_eq_true rfl) fun p e s m args below meth c ls S hX hr hlk hE hl => ?_
  have S : CallFix p m c cX7_as 3 s args (Cond.code yX7_as cX7_as 3 (some .int) :: zw_tb) RX7 := S
  have hx := S.1
  have hb := S.2.1
  have hK := hX.2.1
  have hl : lv_has ls 3 [(0, .ref (ad 0)), (1, .int a1), (2, .int a2)] := hl
  unfold fX7_as at h
  refine lv_aload_n hx hb dX7_as_0 rfl (lv_at hl 0 rfl) ?_
  refine zr_getA S hK hE zcl_X7 (zc_0 w) 0 (Nat.le_of_ble_eq_true rfl) (q := 1) rfl qf_X7_10 dX7_as_1 ?_
  refine lv_iload_n hx hb dX7_as_4 rfl (lv_at hl 1 rfl) ?_
  obtain ⟨x10001, w10002, ew10002, h⟩ := zbd2E h
  refine zr_i (zr_runV (As := [.int a1]) S hX hE (kX6_isRun l D tc lo ad fr zq 1 a1 w x10001 w10002 ew10002) zyX6_isRun qm_X7_78 zcl_X6 rfl (zcW0 zW1 w) ⟨rfl, rfl⟩ ⟨Nat.le_of_ble_eq_true rfl, Nat.le_of_ble_eq_true rfl⟩ rfl hl.1 rfl (Nat.le_of_ble_eq_true rfl) dX7_as_5 ⟨Nat.zero_le _, Nat.zero_le _⟩) hE (fun H locs hE => ?_)
  refine lv_if_eq (tgt := 18) hx hb dX7_as_8 (by decide) (fun c10003 => ?_) (fun c10003 => ?_)
  · have h := zif c10003 h
    refine zr_ldc S qc_X7_68 dX7_as_18 ?_
    exact zr_iret S hE hr hlk h dX7_as_20
  · have h := zif' c10003 h
    refine lv_iload_n hx hb dX7_as_11 rfl (lv_at hl 2 rfl) ?_
    obtain ⟨x10004, w10005, ew10005, h⟩ := zbd2E h
    refine zr_i (zr_runS (As := [.int a2]) S hX hE (kX7_isKind l D tc lo ad fr zq a2 w10002 x10004 w10005 ew10005) zyX7_isKind qm_X7_54 ⟨rfl, rfl⟩ ⟨Nat.le_of_ble_eq_true rfl, Nat.le_of_ble_eq_true rfl⟩ rfl hl.1 rfl (Nat.le_of_ble_eq_true rfl) dX7_as_12 ⟨Nat.zero_le _, Nat.zero_le _⟩) hE (fun H locs hE => ?_)
    refine lv_if_ne (tgt := 21) hx hb dX7_as_15 (by decide) (fun c10006 => ?_) (fun c10006 => ?_)
    · have h := zif' c10006 h
      refine lv_aload_n hx hb dX7_as_21 rfl (lv_at hl 0 rfl) ?_
      refine zr_getA S hK hE zcl_X7 (zc_0 w10005) 0 (Nat.le_of_ble_eq_true rfl) (q := 1) rfl qf_X7_10 dX7_as_22 ?_
      refine zr_getA S hK hE zcl_X6 (zcW0 zW1 w10005) 0 (Nat.le_of_ble_eq_true rfl) (q := 1 + 1) rfl qf_X7_81 dX7_as_25 ?_
      refine lv_iload_n hx hb dX7_as_28 rfl (lv_at hl 1 rfl) ?_
      obtain ⟨x10007, ex10007, h⟩ := zbdE h
      refine zr_iald S hK hE (zcW1 zW1 w10005) dX7_as_29 ex10007 ?_
      refine lv_iload_n hx hb dX7_as_30 rfl (lv_at hl 2 rfl) ?_
      obtain ⟨x10008, w10009, ew10009, h⟩ := zbd2E h
      refine zr_i (zr_runS (As := [.int x10007, .int a2]) S hX hE (kX0_isUnder l D tc lo ad fr zq x10007 a2 w10005 x10008 w10009 ew10009) zyX0_isUnder qm_X7_116 ⟨rfl, rfl⟩ ⟨Nat.le_of_ble_eq_true rfl, Nat.le_of_ble_eq_true rfl⟩ rfl hl.1 rfl (Nat.le_of_ble_eq_true rfl) dX7_as_31 ⟨Nat.zero_le _, Nat.zero_le _⟩) hE (fun H locs hE => ?_)
      refine lv_if_eq (tgt := 49) hx hb dX7_as_34 (by decide) (fun c10010 => ?_) (fun c10010 => ?_)
      · have h := zif c10010 h
        refine zr_ldc S qc_X7_120 dX7_as_49 ?_
        exact zr_iret S hE hr hlk h dX7_as_51
      · have h := zif' c10010 h
        refine lv_aload_n hx hb dX7_as_37 rfl (lv_at hl 0 rfl) ?_
        refine zr_getA S hK hE zcl_X7 (zc_0 w10009) 0 (Nat.le_of_ble_eq_true rfl) (q := 1) rfl qf_X7_10 dX7_as_38 ?_
        refine zr_getA S hK hE zcl_X6 (zcW0 zW1 w10009) 3 (Nat.le_of_ble_eq_true rfl) (q := 1 + 4) rfl qf_X7_90 dX7_as_41 ?_
        refine lv_iload_n hx hb dX7_as_44 rfl (lv_at hl 1 rfl) ?_
        obtain ⟨x10011, ex10011, h⟩ := zbdE h
        refine zr_iald S hK hE (zcW4 zW1 w10009) dX7_as_45 ex10011 ?_
        refine lv_goto (tgt := 51) hx hb dX7_as_46 (by decide) ?_
        exact zr_iret S hE hr hlk h dX7_as_51
    · have h := zif c10006 h
      refine zr_ldc S qc_X7_68 dX7_as_18 ?_
      exact zr_iret S hE hr hlk h dX7_as_20
set_option maxHeartbeats 4000000 in
set_option maxRecDepth 100000 in
theorem kX7_isSlot (l : Launch) (D : va_G) (tc : Nat → ClassId) (lo : Nat) (ad : Nat → Nat) (fr : va_W) (zq : zz_Q) (a1 : Int32) (w : zz_W) (r : Int32) (w_ : zz_W) (h : fX7_isSlot a1 w = some (r, w_)) : zMi l yX7_isSlot cX7_isSlot 1 (some .boolean) { frames := 1, cells := 0, slots := 0, locals := 22 } D tc lo ad zshC znnC fr zq [.int a1] w r w_ := by
  refine zr_entry (by decide) (Nat.le_of_ble_eq_true rfl) fun p e s m args below meth c ls S hX hr hlk hE hl => ?_
  have S : CallFix p m c cX7_isSlot 1 s args (Cond.code yX7_isSlot cX7_isSlot 1 (some .boolean) :: zw_tb) RX7 := S
  have hx := S.1
  have hb := S.2.1
  have hK := hX.2.1
  have hl : lv_has ls 1 [(0, .int a1)] := hl
  unfold fX7_isSlot at h
  refine lv_iload_n hx hb dX7_isSlot_0 rfl (lv_at hl 0 rfl) ?_
  refine lv_iconst (v := 0) hx hb dX7_isSlot_1 (by decide) ?_
  refine lv_iconst (v := 4) hx hb dX7_isSlot_2 (by decide) ?_
  obtain ⟨x10001, w10002, ew10002, h⟩ := zbd2E h
  refine zr_i (zr_runS (As := [.int a1, .int 0, .int 4]) S hX hE (kX7_within l D tc lo ad fr zq a1 0 4 w x10001 w10002 ew10002) zyX7_within qm_X7_61 ⟨rfl, rfl⟩ ⟨Nat.le_of_ble_eq_true rfl, Nat.le_of_ble_eq_true rfl⟩ rfl hl.1 rfl (Nat.le_of_ble_eq_true rfl) dX7_isSlot_3 ⟨Nat.zero_le _, Nat.zero_le _⟩) hE (fun H locs hE => ?_)
  obtain ⟨x10003, ex10003, h⟩ := zbdE h
  obtain ⟨ezx10003, enx10003⟩ := zboo_in ex10003
  refine zr_topi (congrArg some ezx10003) ?_
  exact zr_zret S hE hr hlk enx10003 h dX7_isSlot_6
set_option maxHeartbeats 4000000 in
set_option maxRecDepth 100000 in
theorem kX7_ask (l : Launch) (D : va_G) (tc : Nat → ClassId) (lo : Nat) (ad : Nat → Nat) (fr : va_W) (zq : zz_Q) (a1 : Int32) (a2 : Int32) (w : zz_W) (r : Int32) (w_ : zz_W) (h : fX7_ask a1 a2 w = some (r, w_)) : zMi l yX7_ask cX7_ask 4 (some .int) { frames := 3, cells := 0, slots := 0, locals := 65 } D tc lo ad zshC znnC fr zq [.ref (ad 0), .int a1, .int a2] w r w_ := by
  refine zr_entry (by decide) (Nat.le_of_ble_eq_true rfl) fun p e s m args below meth c ls S hX hr hlk hE hl => ?_
  have S : CallFix p m c cX7_ask 4 s args (Cond.code yX7_ask cX7_ask 4 (some .int) :: zw_tb) RX7 := S
  have hx := S.1
  have hb := S.2.1
  have hK := hX.2.1
  have hl : lv_has ls 4 [(0, .ref (ad 0)), (1, .int a1), (2, .int a2)] := hl
  unfold fX7_ask at h
  refine lv_iload_n hx hb dX7_ask_0 rfl (lv_at hl 1 rfl) ?_
  obtain ⟨x10001, w10002, ew10002, h⟩ := zbd2E h
  refine zr_i (zr_runS (As := [.int a1]) S hX hE (kX7_isSlot l D tc lo ad fr zq a1 w x10001 w10002 ew10002) zyX7_isSlot qm_X7_323 ⟨rfl, rfl⟩ ⟨Nat.le_of_ble_eq_true rfl, Nat.le_of_ble_eq_true rfl⟩ rfl hl.1 rfl (Nat.le_of_ble_eq_true rfl) dX7_ask_1 ⟨Nat.zero_le _, Nat.zero_le _⟩) hE (fun H locs hE => ?_)
  refine lv_if_eq (tgt := 14) hx hb dX7_ask_4 (by decide) (fun c10003 => ?_) (fun c10003 => ?_)
  · have h := zif c10003 h
    refine zr_ldc S qc_X7_68 dX7_ask_14 ?_
    exact zr_iret S hE hr hlk h dX7_ask_16
  · have h := zif' c10003 h
    refine lv_iload_n hx hb dX7_ask_7 rfl (lv_at hl 2 rfl) ?_
    obtain ⟨x10004, w10005, ew10005, h⟩ := zbd2E h
    refine zr_i (zr_runS (As := [.int a2]) S hX hE (kX7_isKind l D tc lo ad fr zq a2 w10002 x10004 w10005 ew10005) zyX7_isKind qm_X7_54 ⟨rfl, rfl⟩ ⟨Nat.le_of_ble_eq_true rfl, Nat.le_of_ble_eq_true rfl⟩ rfl hl.1 rfl (Nat.le_of_ble_eq_true rfl) dX7_ask_8 ⟨Nat.zero_le _, Nat.zero_le _⟩) hE (fun H locs hE => ?_)
    refine lv_if_ne (tgt := 17) hx hb dX7_ask_11 (by decide) (fun c10006 => ?_) (fun c10006 => ?_)
    · have h := zif' c10006 h
      refine lv_aload_n hx hb dX7_ask_17 rfl (lv_at hl 0 rfl) ?_
      refine zr_getA S hK hE zcl_X7 (zc_0 w10005) 6 (Nat.le_of_ble_eq_true rfl) (q := 40) rfl qf_X7_44 dX7_ask_18 ?_
      refine lv_iload_n hx hb dX7_ask_21 rfl (lv_at hl 1 rfl) ?_
      obtain ⟨q10007, eq10007, h⟩ := zbdE h
      refine zr_aald5 S hK hE (zc_40 w10005) dX7_ask_22 eq10007 ?_
      refine lv_astore_n (lv' := [(3, .ref (ad q10007)), (0, .ref (ad 0)), (1, .int a1), (2, .int a2)]) hx hb dX7_ask_23 rfl hl (by decide) rfl (fun ls hl => ?_)
      refine lv_aload_n hx hb dX7_ask_24 rfl (lv_at hl 0 rfl) ?_
      obtain ⟨x10008, ex10008, h⟩ := zbdE h
      refine zr_getI S hK hE zcl_X3 (zcL0 (zq5_L eq10007) w10005) 1 (Nat.le_of_ble_eq_true rfl) rfl qf_X7_326 dX7_ask_25 ex10008 ?_
      refine lv_if_ne (tgt := 34) hx hb dX7_ask_28 (by decide) (fun c10009 => ?_) (fun c10009 => ?_)
      · have h := zif' c10009 h
        refine lv_aload_n hx hb dX7_ask_34 rfl (lv_at hl 0 rfl) ?_
        obtain ⟨x10010, ex10010, h⟩ := zbdE h
        refine zr_getI S hK hE zcl_X3 (zcL0 (zq5_L eq10007) w10005) 1 (Nat.le_of_ble_eq_true rfl) rfl qf_X7_326 dX7_ask_35 ex10010 ?_
        refine lv_iconst (v := 1) hx hb dX7_ask_38 (by decide) ?_
        refine lv_icmp_ne (tgt := 53) hx hb dX7_ask_39 (by decide) (fun c10011 => ?_) (fun c10011 => ?_)
        · have h := zif' c10011 h
          refine zr_ldc S qc_X7_120 dX7_ask_53 ?_
          exact zr_iret S hE hr hlk h dX7_ask_55
        · have h := zif c10011 h
          refine lv_aload_n hx hb dX7_ask_42 rfl (lv_at hl 0 rfl) ?_
          obtain ⟨x10012, ex10012, h⟩ := zbdE h
          refine zr_getI S hK hE zcl_X3 (zcL0 (zq5_L eq10007) w10005) 2 (Nat.le_of_ble_eq_true rfl) rfl qf_X7_329 dX7_ask_43 ex10012 ?_
          refine lv_iload_n hx hb dX7_ask_46 rfl (lv_at hl 3 rfl) ?_
          obtain ⟨x10013, w10014, ew10014, h⟩ := zbd2E h
          refine zr_i (zr_runS (As := [.int x10012, .int a2]) S hX hE (kX0_isUnder l D tc lo ad fr zq x10012 a2 w10005 x10013 w10014 ew10014) zyX0_isUnder qm_X7_116 ⟨rfl, rfl⟩ ⟨Nat.le_of_ble_eq_true rfl, Nat.le_of_ble_eq_true rfl⟩ rfl hl.1 rfl (Nat.le_of_ble_eq_true rfl) dX7_ask_47 ⟨Nat.zero_le _, Nat.zero_le _⟩) hE (fun H locs hE => ?_)
          refine lv_if_ne (tgt := 56) hx hb dX7_ask_50 (by decide) (fun c10015 => ?_) (fun c10015 => ?_)
          · have h := zif' c10015 h
            refine lv_aload_n hx hb dX7_ask_56 rfl (lv_at hl 0 rfl) ?_
            obtain ⟨x10016, ex10016, h⟩ := zbdE h
            refine zr_getI S hK hE zcl_X3 (zcL0 (zq5_L eq10007) w10014) 2 (Nat.le_of_ble_eq_true rfl) rfl qf_X7_329 dX7_ask_57 ex10016 ?_
            refine lv_aload_n hx hb dX7_ask_60 rfl (lv_at hl 0 rfl) ?_
            obtain ⟨x10017, ex10017, h⟩ := zbdE h
            refine zr_getI S hK hE zcl_X3 (zcL0 (zq5_L eq10007) w10014) 3 (Nat.le_of_ble_eq_true rfl) rfl qf_X7_332 dX7_ask_61 ex10017 ?_
            obtain ⟨x10018, w10019, ew10019, h⟩ := zbd2E h
            refine zr_i (zr_runS (As := [.int x10016, .int x10017]) S hX hE (kX0_worthOf l D tc lo ad fr zq x10016 x10017 w10014 x10018 w10019 ew10019) zyX0_worthOf qm_X7_110 ⟨rfl, rfl⟩ ⟨Nat.le_of_ble_eq_true rfl, Nat.le_of_ble_eq_true rfl⟩ rfl hl.1 rfl (Nat.le_of_ble_eq_true rfl) dX7_ask_64 ⟨Nat.zero_le _, Nat.zero_le _⟩) hE (fun H locs hE => ?_)
            exact zr_iret S hE hr hlk h dX7_ask_67
          · have h := zif c10015 h
            refine zr_ldc S qc_X7_120 dX7_ask_53 ?_
            exact zr_iret S hE hr hlk h dX7_ask_55
      · have h := zif c10009 h
        refine zr_ldc S qc_X7_237 dX7_ask_31 ?_
        exact zr_iret S hE hr hlk h dX7_ask_33
    · have h := zif c10006 h
      refine zr_ldc S qc_X7_68 dX7_ask_14 ?_
      exact zr_iret S hE hr hlk h dX7_ask_16
set_option maxHeartbeats 4000000 in
set_option maxRecDepth 100000 in
theorem kX7_back (l : Launch) (D : va_G) (tc : Nat → ClassId) (lo : Nat) (ad : Nat → Nat) (fr : va_W) (zq : zz_Q) (w : zz_W) (r : Int32) (w_ : zz_W) (h : fX7_back w = some (r, w_)) : zMi l yX7_back cX7_back 1 (some .int) { frames := 2, cells := 0, slots := 0, locals := 48 } D tc lo ad zshC znnC fr zq [.ref (ad 0)] w r w_ := by
  refine zr_entry (by decide) (Nat.le_of_ble_eq_true rfl) fun p e s m args below meth c ls S hX hr hlk hE hl => ?_
  have S : CallFix p m c cX7_back 1 s args (Cond.code yX7_back cX7_back 1 (some .int) :: zw_tb) RX7 := S
  have hx := S.1
  have hb := S.2.1
  have hK := hX.2.1
  have hl : lv_has ls 1 [(0, .ref (ad 0))] := hl
  unfold fX7_back at h
  refine lv_aload_n hx hb dX7_back_0 rfl (lv_at hl 0 rfl) ?_
  obtain ⟨x10001, ex10001, h⟩ := zbdE h
  refine zr_getI S hK hE zcl_X7 (zc_0 w) 8 (Nat.le_of_ble_eq_true rfl) rfl qf_X7_347 dX7_back_1 ex10001 ?_
  refine lv_if_ne (tgt := 10) hx hb dX7_back_4 (by decide) (fun c10002 => ?_) (fun c10002 => ?_)
  · have h := zif' c10002 h
    refine lv_aload_n hx hb dX7_back_10 rfl (lv_at hl 0 rfl) ?_
    refine zr_getA S hK hE zcl_X7 (zc_0 w) 0 (Nat.le_of_ble_eq_true rfl) (q := 1) rfl qf_X7_10 dX7_back_11 ?_
    refine lv_aload_n hx hb dX7_back_14 rfl (lv_at hl 0 rfl) ?_
    refine zr_getA S hK hE zcl_X7 (zc_0 w) 1 (Nat.le_of_ble_eq_true rfl) (q := 11) rfl qf_X7_16 dX7_back_15 ?_
    obtain ⟨w10003, ew10003, h⟩ := zbdE h
    refine zr_v (zr_runV (As := [.ref (ad 11)]) S hX hE (kX6_takeFrom l D tc lo ad fr zq 1 11 w w10003 ew10003) zyX6_takeFrom qm_X7_241 zcl_X6 rfl (zcW0 zW1 w) ⟨rfl, rfl⟩ ⟨Nat.le_of_ble_eq_true rfl, Nat.le_of_ble_eq_true rfl⟩ rfl hl.1 rfl (Nat.le_of_ble_eq_true rfl) dX7_back_18 ⟨Nat.zero_le _, Nat.zero_le _⟩) hE (fun H locs hE => ?_)
    refine lv_aload_n hx hb dX7_back_21 rfl (lv_at hl 0 rfl) ?_
    refine zr_getA S hK hE zcl_X7 (zc_0 w10003) 0 (Nat.le_of_ble_eq_true rfl) (q := 1) rfl qf_X7_10 dX7_back_22 ?_
    obtain ⟨x10004, ex10004, h⟩ := zbdE h
    refine zr_getI S hK hE zcl_X6 (zcW0 zW1 w10003) 9 (Nat.le_of_ble_eq_true rfl) rfl qf_X7_69 dX7_back_25 ex10004 ?_
    exact zr_iret S hE hr hlk h dX7_back_28
  · have h := zif c10002 h
    refine zr_ldc S qc_X7_160 dX7_back_7 ?_
    exact zr_iret S hE hr hlk h dX7_back_9
set_option maxHeartbeats 4000000 in
set_option maxRecDepth 100000 in
theorem kX7_behind (l : Launch) (D : va_G) (tc : Nat → ClassId) (lo : Nat) (ad : Nat → Nat) (fr : va_W) (zq : zz_Q) (a1 : Int32) (a2 : Int32) (w : zz_W) (r : Int32) (w_ : zz_W) (h : fX7_behind a1 a2 w = some (r, w_)) : zMi l yX7_behind cX7_behind 3 (some .int) { frames := 6, cells := 0, slots := 0, locals := 139 } D tc lo ad zshC znnC fr zq [.ref (ad 0), .int a1, .int a2] w r w_ := by
  refine zr_entry (by decide) (Nat.le_of_ble_eq_true rfl) fun p e s m args below meth c ls S hX hr hlk hE hl => ?_
  have S : CallFix p m c cX7_behind 3 s args (Cond.code yX7_behind cX7_behind 3 (some .int) :: zw_tb) RX7 := S
  have hx := S.1
  have hb := S.2.1
  have hK := hX.2.1
  have hl : lv_has ls 3 [(0, .ref (ad 0)), (1, .int a1), (2, .int a2)] := hl
  unfold fX7_behind at h
  have J53 : ∀ (l1 : Int32) (l2 : Int32) (w : zz_W) (ls : Array Slot) (H : Heap) (locs : List Loc), fX7_behind_53 a1 a2 l1 l2 w = some (r, w_) → lv_has ls 3 [(0, .ref (ad 0)), (1, .int l1), (2, .int l2)] → zE D tc lo ad zshC znnC fr w s.heap H locs → W p l e { frames := 6, cells := 0, slots := 0, locals := 139 } s m args below meth c H locs 0 0 (zZi D tc lo ad zshC znnC fr below args s r w_) (F0 m 53 ls []) := by
    intro l1 l2 w ls H locs h hl hE
    unfold fX7_behind_53 at h
    refine lv_aload_n hx hb dX7_behind_53 rfl (lv_at hl 0 rfl) ?_
    refine zr_getA S hK hE zcl_X7 (zc_0 w) 2 (Nat.le_of_ble_eq_true rfl) (q := 21) rfl qf_X7_19 dX7_behind_54 ?_
    refine lv_aload_n hx hb dX7_behind_57 rfl (lv_at hl 0 rfl) ?_
    refine zr_getA S hK hE zcl_X7 (zc_0 w) 0 (Nat.le_of_ble_eq_true rfl) (q := 1) rfl qf_X7_10 dX7_behind_58 ?_
    obtain ⟨w43, ew43, h⟩ := zbdE h
    refine zr_v (zr_runV (As := [.ref (ad 1)]) S hX hE (kX6_takeFrom l D tc lo ad fr zq 21 1 w w43 ew43) zyX6_takeFrom qm_X7_241 zcl_X6 rfl (zcW0 zW21 w) ⟨rfl, rfl⟩ ⟨Nat.le_of_ble_eq_true rfl, Nat.le_of_ble_eq_true rfl⟩ rfl hl.1 rfl (Nat.le_of_ble_eq_true rfl) dX7_behind_61 ⟨Nat.zero_le _, Nat.zero_le _⟩) hE (fun H locs hE => ?_)
    refine lv_aload_n hx hb dX7_behind_64 rfl (lv_at hl 0 rfl) ?_
    refine zr_getA S hK hE zcl_X7 (zc_0 w43) 2 (Nat.le_of_ble_eq_true rfl) (q := 21) rfl qf_X7_19 dX7_behind_65 ?_
    refine lv_iload_n hx hb dX7_behind_68 rfl (lv_at hl 1 rfl) ?_
    obtain ⟨w44, ew44, h⟩ := zbdE h
    refine zr_v (zr_runV (As := [.int l1]) S hX hE (kX6_goOn l D tc lo ad fr zq 21 l1 w43 w44 ew44) zyX6_goOn qm_X7_180 zcl_X6 rfl (zcW0 zW21 w43) ⟨rfl, rfl⟩ ⟨Nat.le_of_ble_eq_true rfl, Nat.le_of_ble_eq_true rfl⟩ rfl hl.1 rfl (Nat.le_of_ble_eq_true rfl) dX7_behind_69 ⟨Nat.zero_le _, Nat.zero_le _⟩) hE (fun H locs hE => ?_)
    refine lv_iload_n hx hb dX7_behind_72 rfl (lv_at hl 2 rfl) ?_
    by_cases c46 : l2 = 0
    · refine lv_tableIn (off := 27) (tgt := 100) hx hb dX7_behind_73 (by rw [c46]; decide) (by rw [c46]; decide) (by rw [c46]; decide) (by decide) ?_
      have h := zif c46 h
      refine lv_aload_n hx hb dX7_behind_100 rfl (lv_at hl 0 rfl) ?_
      refine zr_getA S hK hE zcl_X7 (zc_0 w44) 2 (Nat.le_of_ble_eq_true rfl) (q := 21) rfl qf_X7_19 dX7_behind_101 ?_
      refine zr_getA S hK hE zcl_X6 (zcW0 zW21 w44) 6 (Nat.le_of_ble_eq_true rfl) (q := 21 + 7) rfl qf_X7_174 dX7_behind_104 ?_
      refine lv_iconst (v := 5) hx hb dX7_behind_107 (by decide) ?_
      obtain ⟨x45, ex45, h⟩ := zbdE h
      refine zr_iald S hK hE (zcW7 zW21 w44) dX7_behind_108 ex45 ?_
      exact zr_iret S hE hr hlk h dX7_behind_109
    have h := zif' c46 h
    by_cases c48 : l2 = 1
    · refine lv_tableIn (off := 37) (tgt := 110) hx hb dX7_behind_73 (by rw [c48]; decide) (by rw [c48]; decide) (by rw [c48]; decide) (by decide) ?_
      have h := zif c48 h
      refine lv_aload_n hx hb dX7_behind_110 rfl (lv_at hl 0 rfl) ?_
      refine zr_getA S hK hE zcl_X7 (zc_0 w44) 2 (Nat.le_of_ble_eq_true rfl) (q := 21) rfl qf_X7_19 dX7_behind_111 ?_
      refine zr_getA S hK hE zcl_X6 (zcW0 zW21 w44) 6 (Nat.le_of_ble_eq_true rfl) (q := 21 + 7) rfl qf_X7_174 dX7_behind_114 ?_
      refine lv_iconst (v := 4) hx hb dX7_behind_117 (by decide) ?_
      obtain ⟨x47, ex47, h⟩ := zbdE h
      refine zr_iald S hK hE (zcW7 zW21 w44) dX7_behind_118 ex47 ?_
      exact zr_iret S hE hr hlk h dX7_behind_119
    have h := zif' c48 h
    by_cases c51 : l2 = 2
    · refine lv_tableIn (off := 47) (tgt := 120) hx hb dX7_behind_73 (by rw [c51]; decide) (by rw [c51]; decide) (by rw [c51]; decide) (by decide) ?_
      have h := zif c51 h
      refine lv_aload_n hx hb dX7_behind_120 rfl (lv_at hl 0 rfl) ?_
      refine zr_getA S hK hE zcl_X7 (zc_0 w44) 2 (Nat.le_of_ble_eq_true rfl) (q := 21) rfl qf_X7_19 dX7_behind_121 ?_
      obtain ⟨x49, w50, ew50, h⟩ := zbd2E h
      refine zr_i (zr_runV (As := []) S hX hE (kX6_likeliest l D tc lo ad fr zq 21 w44 x49 w50 ew50) zyX6_likeliest qm_X7_185 zcl_X6 rfl (zcW0 zW21 w44) ⟨rfl, rfl⟩ ⟨Nat.le_of_ble_eq_true rfl, Nat.le_of_ble_eq_true rfl⟩ rfl hl.1 rfl (Nat.le_of_ble_eq_true rfl) dX7_behind_124 ⟨Nat.zero_le _, Nat.zero_le _⟩) hE (fun H locs hE => ?_)
      exact zr_iret S hE hr hlk h dX7_behind_127
    have h := zif' c51 h
    refine lv_tableOut (tgt := 128) hx hb dX7_behind_73 (by have tc46 := lv_neT c46 (a := 0) (by decide); have tc48 := lv_neT c48 (a := 1) (by decide); have tc51 := lv_neT c51 (a := 2) (by decide); omega) (by decide) ?_
    refine lv_aload_n hx hb dX7_behind_128 rfl (lv_at hl 0 rfl) ?_
    refine zr_getA S hK hE zcl_X7 (zc_0 w44) 2 (Nat.le_of_ble_eq_true rfl) (q := 21) rfl qf_X7_19 dX7_behind_129 ?_
    refine zr_getA S hK hE zcl_X6 (zcW0 zW21 w44) 4 (Nat.le_of_ble_eq_true rfl) (q := 21 + 5) rfl qf_X7_93 dX7_behind_132 ?_
    refine lv_iload_n hx hb dX7_behind_135 rfl (lv_at hl 2 rfl) ?_
    refine lv_iconst (v := 3) hx hb dX7_behind_136 (by decide) ?_
    refine lv_isub hx hb dX7_behind_137 ?_
    obtain ⟨x52, ex52, h⟩ := zbdE h
    refine zr_iald S hK hE (zcW5 zW21 w44) dX7_behind_138 ex52 ?_
    exact zr_iret S hE hr hlk h dX7_behind_139
  have J35 : ∀ (l1 : Int32) (l2 : Int32) (w : zz_W) (ls : Array Slot) (H : Heap) (locs : List Loc), fX7_behind_35 a1 a2 l1 l2 w = some (r, w_) → lv_has ls 3 [(0, .ref (ad 0)), (1, .int l1), (2, .int l2)] → zE D tc lo ad zshC znnC fr w s.heap H locs → W p l e { frames := 6, cells := 0, slots := 0, locals := 139 } s m args below meth c H locs 0 0 (zZi D tc lo ad zshC znnC fr below args s r w_) (F0 m 35 ls []) := by
    intro l1 l2 w ls H locs h hl hE
    unfold fX7_behind_35 at h
    refine lv_iload_n hx hb dX7_behind_35 rfl (lv_at hl 2 rfl) ?_
    refine lv_iconst (v := 2) hx hb dX7_behind_36 (by decide) ?_
    refine lv_icmp_ne (tgt := 53) hx hb dX7_behind_37 (by decide) (fun c53 => ?_) (fun c53 => ?_)
    · have h := zif' c53 h
      exact J53 l1 l2 w ls _ _ h (lv_sub hl [0, 1, 2] rfl) hE
    · have h := zif c53 h
      refine lv_aload_n hx hb dX7_behind_40 rfl (lv_at hl 0 rfl) ?_
      refine zr_getA S hK hE zcl_X7 (zc_0 w) 0 (Nat.le_of_ble_eq_true rfl) (q := 1) rfl qf_X7_10 dX7_behind_41 ?_
      obtain ⟨x54, ex54, h⟩ := zbdE h
      refine zr_getI S hK hE zcl_X6 (zcW0 zW1 w) 9 (Nat.le_of_ble_eq_true rfl) rfl qf_X7_69 dX7_behind_44 ex54 ?_
      refine lv_if_ne (tgt := 53) hx hb dX7_behind_47 (by decide) (fun c55 => ?_) (fun c55 => ?_)
      · have h := zif' c55 h
        exact J53 l1 l2 w ls _ _ h (lv_sub hl [0, 1, 2] rfl) hE
      · have h := zif c55 h
        refine zr_ldc S qc_X7_184 dX7_behind_50 ?_
        exact zr_iret S hE hr hlk h dX7_behind_52
  refine lv_iload_n hx hb dX7_behind_0 rfl (lv_at hl 1 rfl) ?_
  refine lv_iconst (v := 0) hx hb dX7_behind_1 (by decide) ?_
  refine lv_bipush (v := 100) hx hb dX7_behind_2 (by decide) ?_
  obtain ⟨x10001, w10002, ew10002, h⟩ := zbd2E h
  refine zr_i (zr_runS (As := [.int a1, .int 0, .int 100]) S hX hE (kX7_within l D tc lo ad fr zq a1 0 100 w x10001 w10002 ew10002) zyX7_within qm_X7_61 ⟨rfl, rfl⟩ ⟨Nat.le_of_ble_eq_true rfl, Nat.le_of_ble_eq_true rfl⟩ rfl hl.1 rfl (Nat.le_of_ble_eq_true rfl) dX7_behind_4 ⟨Nat.zero_le _, Nat.zero_le _⟩) hE (fun H locs hE => ?_)
  refine lv_if_eq (tgt := 32) hx hb dX7_behind_7 (by decide) (fun c10003 => ?_) (fun c10003 => ?_)
  · have h := zif c10003 h
    refine zr_ldc S qc_X7_68 dX7_behind_32 ?_
    exact zr_iret S hE hr hlk h dX7_behind_34
  · have h := zif' c10003 h
    refine lv_iload_n hx hb dX7_behind_10 rfl (lv_at hl 2 rfl) ?_
    refine lv_if_lt (tgt := 32) hx hb dX7_behind_11 (by decide) (fun c10004 => ?_) (fun c10004 => ?_)
    · have h := zif c10004 h
      refine zr_ldc S qc_X7_68 dX7_behind_32 ?_
      exact zr_iret S hE hr hlk h dX7_behind_34
    · have h := zif' c10004 h
      refine lv_iload_n hx hb dX7_behind_14 rfl (lv_at hl 2 rfl) ?_
      refine lv_iconst (v := 3) hx hb dX7_behind_15 (by decide) ?_
      refine lv_icmp_lt (tgt := 35) hx hb dX7_behind_16 (by decide) (fun c10005 => ?_) (fun c10005 => ?_)
      · have h := zif c10005 h
        exact J35 a1 a2 w10002 ls _ _ h (lv_sub hl [0, 1, 2] rfl) hE
      · have h := zif' c10005 h
        refine lv_aload_n hx hb dX7_behind_19 rfl (lv_at hl 0 rfl) ?_
        refine zr_getA S hK hE zcl_X7 (zc_0 w10002) 0 (Nat.le_of_ble_eq_true rfl) (q := 1) rfl qf_X7_10 dX7_behind_20 ?_
        refine lv_iload_n hx hb dX7_behind_23 rfl (lv_at hl 2 rfl) ?_
        refine lv_iconst (v := 3) hx hb dX7_behind_24 (by decide) ?_
        refine lv_isub hx hb dX7_behind_25 ?_
        obtain ⟨x10006, w10007, ew10007, h⟩ := zbd2E h
        refine zr_i (zr_runV (As := [.int (a2 - 3)]) S hX hE (kX6_isRun l D tc lo ad fr zq 1 (a2 - 3) w10002 x10006 w10007 ew10007) zyX6_isRun qm_X7_78 zcl_X6 rfl (zcW0 zW1 w10002) ⟨rfl, rfl⟩ ⟨Nat.le_of_ble_eq_true rfl, Nat.le_of_ble_eq_true rfl⟩ rfl hl.1 rfl (Nat.le_of_ble_eq_true rfl) dX7_behind_26 ⟨Nat.zero_le _, Nat.zero_le _⟩) hE (fun H locs hE => ?_)
        refine lv_if_ne (tgt := 35) hx hb dX7_behind_29 (by decide) (fun c10008 => ?_) (fun c10008 => ?_)
        · have h := zif' c10008 h
          exact J35 a1 a2 w10007 ls _ _ h (lv_sub hl [0, 1, 2] rfl) hE
        · have h := zif c10008 h
          refine zr_ldc S qc_X7_68 dX7_behind_32 ?_
          exact zr_iret S hE hr hlk h dX7_behind_34
set_option maxHeartbeats 4000000 in
set_option maxRecDepth 100000 in
theorem kX7_build (l : Launch) (D : va_G) (tc : Nat → ClassId) (lo : Nat) (ad : Nat → Nat) (fr : va_W) (zq : zz_Q) (w : zz_W) (r : Int32) (w_ : zz_W) (h : fX7_build w = some (r, w_)) : zMi l yX7_build cX7_build 1 (some .int) { frames := 2, cells := 0, slots := 0, locals := 43 } D tc lo ad zshC znnC fr zq [.ref (ad 0)] w r w_ := by
  refine zr_entry (by decide) (Nat.le_of_ble_eq_true rfl) fun p e s m args below meth c ls S hX hr hlk hE hl => ?_
  have S : CallFix p m c cX7_build 1 s args (Cond.code yX7_build cX7_build 1 (some .int) :: zw_tb) RX7 := S
  have hx := S.1
  have hb := S.2.1
  have hK := hX.2.1
  have hl : lv_has ls 1 [(0, .ref (ad 0))] := hl
  unfold fX7_build at h
  refine lv_aload_n hx hb dX7_build_0 rfl (lv_at hl 0 rfl) ?_
  refine zr_getA S hK hE zcl_X7 (zc_0 w) 0 (Nat.le_of_ble_eq_true rfl) (q := 1) rfl qf_X7_10 dX7_build_1 ?_
  obtain ⟨x10001, ex10001, h⟩ := zbdE h
  refine zr_getI S hK hE zcl_X6 (zcW0 zW1 w) 9 (Nat.le_of_ble_eq_true rfl) rfl qf_X7_69 dX7_build_4 ex10001 ?_
  refine lv_if_ne (tgt := 13) hx hb dX7_build_7 (by decide) (fun c10002 => ?_) (fun c10002 => ?_)
  · have h := zif' c10002 h
    refine lv_aload_n hx hb dX7_build_13 rfl (lv_at hl 0 rfl) ?_
    refine zr_getA S hK hE zcl_X7 (zc_0 w) 0 (Nat.le_of_ble_eq_true rfl) (q := 1) rfl qf_X7_10 dX7_build_14 ?_
    obtain ⟨w10003, ew10003, h⟩ := zbdE h
    refine zr_v (zr_runV (As := []) S hX hE (kX6_chooseTrue l D tc lo ad fr zq 1 w w10003 ew10003) zyX6_chooseTrue qm_X7_161 zcl_X6 rfl (zcW0 zW1 w) ⟨rfl, rfl⟩ ⟨Nat.le_of_ble_eq_true rfl, Nat.le_of_ble_eq_true rfl⟩ rfl hl.1 rfl (Nat.le_of_ble_eq_true rfl) dX7_build_17 ⟨Nat.zero_le _, Nat.zero_le _⟩) hE (fun H locs hE => ?_)
    refine lv_aload_n hx hb dX7_build_20 rfl (lv_at hl 0 rfl) ?_
    refine zr_getA S hK hE zcl_X7 (zc_0 w10003) 0 (Nat.le_of_ble_eq_true rfl) (q := 1) rfl qf_X7_10 dX7_build_21 ?_
    obtain ⟨x10004, ex10004, h⟩ := zbdE h
    refine zr_getI S hK hE zcl_X6 (zcW0 zW1 w10003) 9 (Nat.le_of_ble_eq_true rfl) rfl qf_X7_69 dX7_build_24 ex10004 ?_
    exact zr_iret S hE hr hlk h dX7_build_27
  · have h := zif c10002 h
    refine zr_ldc S qc_X7_160 dX7_build_10 ?_
    exact zr_iret S hE hr hlk h dX7_build_12
set_option maxHeartbeats 4000000 in
set_option maxRecDepth 100000 in
theorem kX7_chance (l : Launch) (D : va_G) (tc : Nat → ClassId) (lo : Nat) (ad : Nat → Nat) (fr : va_W) (zq : zz_Q) (a1 : Int32) (w : zz_W) (r : Int32) (w_ : zz_W) (h : fX7_chance a1 w = some (r, w_)) : zMi l yX7_chance cX7_chance 2 (some .int) { frames := 2, cells := 0, slots := 0, locals := 47 } D tc lo ad zshC znnC fr zq [.ref (ad 0), .int a1] w r w_ := by
  refine zr_entry (by decide) (Nat.le_of_ble_eq_true rfl) fun p e s m args below meth c ls S hX hr hlk hE hl => ?_
  have S : CallFix p m c cX7_chance 2 s args (Cond.code yX7_chance cX7_chance 2 (some .int) :: zw_tb) RX7 := S
  have hx := S.1
  have hb := S.2.1
  have hK := hX.2.1
  have hl : lv_has ls 2 [(0, .ref (ad 0)), (1, .int a1)] := hl
  unfold fX7_chance at h
  refine lv_iload_n hx hb dX7_chance_0 rfl (lv_at hl 1 rfl) ?_
  obtain ⟨x10001, w10002, ew10002, h⟩ := zbd2E h
  refine zr_i (zr_runS (As := [.int a1]) S hX hE (kX7_isCell l D tc lo ad fr zq a1 w x10001 w10002 ew10002) zyX7_isCell qm_X7_58 ⟨rfl, rfl⟩ ⟨Nat.le_of_ble_eq_true rfl, Nat.le_of_ble_eq_true rfl⟩ rfl hl.1 rfl (Nat.le_of_ble_eq_true rfl) dX7_chance_1 ⟨Nat.zero_le _, Nat.zero_le _⟩) hE (fun H locs hE => ?_)
  refine lv_if_ne (tgt := 10) hx hb dX7_chance_4 (by decide) (fun c10003 => ?_) (fun c10003 => ?_)
  · have h := zif' c10003 h
    refine lv_aload_n hx hb dX7_chance_10 rfl (lv_at hl 0 rfl) ?_
    refine zr_getA S hK hE zcl_X7 (zc_0 w10002) 0 (Nat.le_of_ble_eq_true rfl) (q := 1) rfl qf_X7_10 dX7_chance_11 ?_
    obtain ⟨x10004, ex10004, h⟩ := zbdE h
    refine zr_getI S hK hE zcl_X6 (zcW0 zW1 w10002) 9 (Nat.le_of_ble_eq_true rfl) rfl qf_X7_69 dX7_chance_14 ex10004 ?_
    refine lv_if_ne (tgt := 25) hx hb dX7_chance_17 (by decide) (fun c10005 => ?_) (fun c10005 => ?_)
    · have h := zif' c10005 h
      refine lv_aload_n hx hb dX7_chance_25 rfl (lv_at hl 0 rfl) ?_
      refine zr_getA S hK hE zcl_X7 (zc_0 w10002) 0 (Nat.le_of_ble_eq_true rfl) (q := 1) rfl qf_X7_10 dX7_chance_26 ?_
      refine lv_aload_n hx hb dX7_chance_29 rfl (lv_at hl 0 rfl) ?_
      refine zr_getA S hK hE zcl_X7 (zc_0 w10002) 0 (Nat.le_of_ble_eq_true rfl) (q := 1) rfl qf_X7_10 dX7_chance_30 ?_
      refine lv_iload_n hx hb dX7_chance_33 rfl (lv_at hl 1 rfl) ?_
      obtain ⟨x10006, w10007, ew10007, h⟩ := zbd2E h
      refine zr_l (zr_runV (As := [.int a1]) S hX hE (kX6_oddsAt l D tc lo ad fr zq 1 a1 w10002 x10006 w10007 ew10007) zyX6_oddsAt qm_X7_192 zcl_X6 rfl (zcW0 zW1 w10002) ⟨rfl, rfl⟩ ⟨Nat.le_of_ble_eq_true rfl, Nat.le_of_ble_eq_true rfl⟩ rfl hl.1 rfl (Nat.le_of_ble_eq_true rfl) dX7_chance_34 ⟨Nat.zero_le _, Nat.zero_le _⟩) hE (fun H locs hE => ?_)
      obtain ⟨x10008, w10009, ew10009, h⟩ := zbd2E h
      refine zr_i (zr_runV (As := [.long x10006]) S hX hE (kX6_ofThousand l D tc lo ad fr zq 1 x10006 w10007 x10008 w10009 ew10009) zyX6_ofThousand qm_X7_196 zcl_X6 rfl (zcW0 zW1 w10007) ⟨rfl, rfl⟩ ⟨Nat.le_of_ble_eq_true rfl, Nat.le_of_ble_eq_true rfl⟩ rfl hl.1 rfl (Nat.le_of_ble_eq_true rfl) dX7_chance_37 ⟨Nat.zero_le _, Nat.zero_le _⟩) hE (fun H locs hE => ?_)
      exact zr_iret S hE hr hlk h dX7_chance_40
    · have h := zif c10005 h
      refine zr_ldc S qc_X7_184 dX7_chance_20 ?_
      refine lv_goto (tgt := 40) hx hb dX7_chance_22 (by decide) ?_
      exact zr_iret S hE hr hlk h dX7_chance_40
  · have h := zif c10003 h
    refine zr_ldc S qc_X7_68 dX7_chance_7 ?_
    exact zr_iret S hE hr hlk h dX7_chance_9
set_option maxHeartbeats 4000000 in
set_option maxRecDepth 100000 in
theorem kX7_check (l : Launch) (D : va_G) (tc : Nat → ClassId) (lo : Nat) (ad : Nat → Nat) (fr : va_W) (zq : zz_Q) (a1 : Int32) (w : zz_W) (r : Int32) (w_ : zz_W) (h : fX7_check a1 w = some (r, w_)) : zMi l yX7_check cX7_check 6 (some .int) { frames := 5, cells := 0, slots := 0, locals := 117 } D tc lo ad zshC znnC fr zq [.ref (ad 0), .int a1] w r w_ := by
  refine zr_entry (by decide) (Nat.le_of_ble_eq_true rfl) fun p e s m args below meth c ls S hX hr hlk hE hl => ?_
  have S : CallFix p m c cX7_check 6 s args (Cond.code yX7_check cX7_check 6 (some .int) :: zw_tb) RX7 := S
  have hx := S.1
  have hb := S.2.1
  have hK := hX.2.1
  have hl : lv_has ls 6 [(0, .ref (ad 0)), (1, .int a1)] := hl
  unfold fX7_check at h
  have L65 : ∀ (n : Nat) (l2 : Int32) (l3 : Int32) (l4 : Int32) (w : zz_W) (ls : Array Slot) (H : Heap) (locs : List Loc), fX7_check_65 a1 n l2 l3 l4 w = some (r, w_) → lv_has ls 6 [(0, .ref (ad 0)), (2, .int l2), (3, .int l3), (4, .int l4)] → zE D tc lo ad zshC znnC fr w s.heap H locs → W p l e { frames := 5, cells := 0, slots := 0, locals := 117 } s m args below meth c H locs 0 0 (zZi D tc lo ad zshC znnC fr below args s r w_) (F0 m 65 ls []) := by
    intro n65
    induction n65 with
    | zero => intro l2 l3 l4 w ls H locs h hl hE; rw [fX7_check_65] at h; cases h
    | succ n65 ih65 =>
      intro l2 l3 l4 w ls H locs h hl hE
      rw [fX7_check_65] at h
      have J111 : ∀ (l2 : Int32) (l3 : Int32) (l4 : Int32) (s0 : Int32) (w : zz_W) (ls : Array Slot) (H : Heap) (locs : List Loc), fX7_check_111 a1 (fX7_check_65 a1 n65) l2 l3 l4 s0 w = some (r, w_) → lv_has ls 6 [(0, .ref (ad 0)), (2, .int l2), (3, .int l3), (4, .int l4)] → zE D tc lo ad zshC znnC fr w s.heap H locs → W p l e { frames := 5, cells := 0, slots := 0, locals := 117 } s m args below meth c H locs 0 0 (zZi D tc lo ad zshC znnC fr below args s r w_) (F0 m 111 ls [.int s0]) := by
        intro l2 l3 l4 s0 w ls H locs h hl hE
        unfold fX7_check_111 at h
        refine lv_istore (lv' := [(5, .int s0), (0, .ref (ad 0)), (2, .int l2), (3, .int l3), (4, .int l4)]) hx hb dX7_check_111 hl (by decide) rfl (fun ls hl => ?_)
        refine lv_iload hx hb dX7_check_113 (lv_at hl 4 rfl) ?_
        refine lv_iload_n hx hb dX7_check_115 rfl (lv_at hl 2 rfl) ?_
        refine lv_icmp_ge (tgt := 131) hx hb dX7_check_116 (by decide) (fun c49 => ?_) (fun c49 => ?_)
        · have h := zif c49 h
          refine lv_iconst (v := 1) hx hb dX7_check_131 (by decide) ?_
          refine lv_iload hx hb dX7_check_132 (lv_at hl 4 rfl) ?_
          refine lv_iadd hx hb dX7_check_134 ?_
          exact zr_iret S hE hr hlk h dX7_check_135
        · have h := zif' c49 h
          refine lv_aload_n hx hb dX7_check_119 rfl (lv_at hl 1 rfl) ?_
          refine zr_getA S hK hE zcl_X7 (zc_0 w) 7 (Nat.le_of_ble_eq_true rfl) (q := 41) rfl qf_X7_48 dX7_check_120 ?_
          refine lv_iload hx hb dX7_check_123 (lv_at hl 4 rfl) ?_
          obtain ⟨x50, ex50, h⟩ := zbdE h
          refine zr_iald S hK hE (zc_41 w) dX7_check_125 ex50 ?_
          refine lv_iload hx hb dX7_check_126 (lv_at hl 0 rfl) ?_
          refine lv_icmp_eq (tgt := 136) hx hb dX7_check_128 (by decide) (fun c51 => ?_) (fun c51 => ?_)
          · have h := zif c51 h
            obtain ⟨x52, ex52, h⟩ := zbdE h
            refine lv_iinc (v := x52) (lv' := [(4, .int x52), (5, .int s0), (0, .ref (ad 0)), (2, .int l2), (3, .int l3)]) hx hb dX7_check_136 hl (k := 4) rfl (zinc (k := 1) (by decide) ex52) (by decide) rfl (fun ls hl => ?_)
            refine lv_goto (tgt := 65) hx hb dX7_check_139 (by decide) ?_
            exact ih65 l2 l3 x52 w ls _ _ h (lv_sub hl [2, 3, 4, 0] rfl) hE
          · have h := zif' c51 h
            refine lv_iconst (v := 1) hx hb dX7_check_131 (by decide) ?_
            refine lv_iload hx hb dX7_check_132 (lv_at hl 4 rfl) ?_
            refine lv_iadd hx hb dX7_check_134 ?_
            exact zr_iret S hE hr hlk h dX7_check_135
      have J85 : ∀ (l2 : Int32) (l3 : Int32) (l4 : Int32) (w : zz_W) (ls : Array Slot) (H : Heap) (locs : List Loc), fX7_check_85 a1 (fX7_check_65 a1 n65) l2 l3 l4 w = some (r, w_) → lv_has ls 6 [(0, .ref (ad 0)), (2, .int l2), (3, .int l3), (4, .int l4)] → zE D tc lo ad zshC znnC fr w s.heap H locs → W p l e { frames := 5, cells := 0, slots := 0, locals := 117 } s m args below meth c H locs 0 0 (zZi D tc lo ad zshC znnC fr below args s r w_) (F0 m 85 ls []) := by
        intro l2 l3 l4 w ls H locs h hl hE
        unfold fX7_check_85 at h
        refine lv_iload hx hb dX7_check_85 (lv_at hl 3 rfl) ?_
        refine lv_iconst (v := 2) hx hb dX7_check_87 (by decide) ?_
        obtain ⟨x53, ex53, h⟩ := zbdE h
        refine zr_irem hx hb dX7_check_88 ex53 ?_
        refine lv_if_ne (tgt := 104) hx hb dX7_check_89 (by decide) (fun c54 => ?_) (fun c54 => ?_)
        · have h := zif' c54 h
          refine lv_aload_n hx hb dX7_check_104 rfl (lv_at hl 0 rfl) ?_
          refine zr_getA S hK hE zcl_X7 (zc_0 w) 2 (Nat.le_of_ble_eq_true rfl) (q := 21) rfl qf_X7_19 dX7_check_105 ?_
          obtain ⟨x55, w56, ew56, h⟩ := zbd2E h
          refine zr_i (zr_runV (As := []) S hX hE (kX6_likeliest l D tc lo ad fr zq 21 w x55 w56 ew56) zyX6_likeliest qm_X7_185 zcl_X6 rfl (zcW0 zW21 w) ⟨rfl, rfl⟩ ⟨Nat.le_of_ble_eq_true rfl, Nat.le_of_ble_eq_true rfl⟩ rfl hl.1 rfl (Nat.le_of_ble_eq_true rfl) dX7_check_108 ⟨Nat.zero_le _, Nat.zero_le _⟩) hE (fun H locs hE => ?_)
          exact J111 l2 l3 l4 x55 w56 ls _ _ h (lv_sub hl [0, 1, 2, 3] rfl) hE
        · have h := zif c54 h
          refine lv_aload_n hx hb dX7_check_92 rfl (lv_at hl 0 rfl) ?_
          refine zr_getA S hK hE zcl_X7 (zc_0 w) 2 (Nat.le_of_ble_eq_true rfl) (q := 21) rfl qf_X7_19 dX7_check_93 ?_
          refine zr_getA S hK hE zcl_X6 (zcW0 zW21 w) 6 (Nat.le_of_ble_eq_true rfl) (q := 21 + 7) rfl qf_X7_174 dX7_check_96 ?_
          refine lv_iconst (v := 5) hx hb dX7_check_99 (by decide) ?_
          obtain ⟨x57, ex57, h⟩ := zbdE h
          refine zr_iald S hK hE (zcW7 zW21 w) dX7_check_100 ex57 ?_
          refine lv_goto (tgt := 111) hx hb dX7_check_101 (by decide) ?_
          exact J111 l2 l3 l4 x57 w ls _ _ h (lv_sub hl [0, 1, 2, 3] rfl) hE
      refine lv_iload hx hb dX7_check_65 (lv_at hl 3 rfl) ?_
      refine lv_iload_n hx hb dX7_check_67 rfl (lv_at hl 2 rfl) ?_
      refine lv_icmp_ge (tgt := 142) hx hb dX7_check_68 (by decide) (fun c58 => ?_) (fun c58 => ?_)
      · have h := zif c58 h
        refine lv_iload_n hx hb dX7_check_142 rfl (lv_at hl 1 rfl) ?_
        refine lv_iload_n hx hb dX7_check_143 rfl (lv_at hl 2 rfl) ?_
        refine lv_icmp_ne (tgt := 151) hx hb dX7_check_144 (by decide) (fun c59 => ?_) (fun c59 => ?_)
        · have h := zif' c59 h
          refine lv_iconst (v := 1) hx hb dX7_check_151 (by decide) ?_
          refine lv_iload_n hx hb dX7_check_152 rfl (lv_at hl 2 rfl) ?_
          refine lv_iadd hx hb dX7_check_153 ?_
          exact zr_iret S hE hr hlk h dX7_check_154
        · have h := zif c59 h
          refine lv_iconst (v := 0) hx hb dX7_check_147 (by decide) ?_
          refine lv_goto (tgt := 154) hx hb dX7_check_148 (by decide) ?_
          exact zr_iret S hE hr hlk h dX7_check_154
      · have h := zif' c58 h
        refine lv_iload hx hb dX7_check_71 (lv_at hl 3 rfl) ?_
        refine lv_iconst (v := 2) hx hb dX7_check_73 (by decide) ?_
        obtain ⟨x60, ex60, h⟩ := zbdE h
        refine zr_irem hx hb dX7_check_74 ex60 ?_
        refine lv_if_ne (tgt := 85) hx hb dX7_check_75 (by decide) (fun c61 => ?_) (fun c61 => ?_)
        · have h := zif' c61 h
          exact J85 l2 l3 l4 w ls _ _ h (lv_sub hl [0, 1, 2, 3] rfl) hE
        · have h := zif c61 h
          refine lv_aload_n hx hb dX7_check_78 rfl (lv_at hl 0 rfl) ?_
          refine zr_getA S hK hE zcl_X7 (zc_0 w) 2 (Nat.le_of_ble_eq_true rfl) (q := 21) rfl qf_X7_19 dX7_check_79 ?_
          obtain ⟨w62, ew62, h⟩ := zbdE h
          refine zr_v (zr_runV (As := []) S hX hE (kX6_takeStep l D tc lo ad fr zq 21 w w62 ew62) zyX6_takeStep qm_X7_244 zcl_X6 rfl (zcW0 zW21 w) ⟨rfl, rfl⟩ ⟨Nat.le_of_ble_eq_true rfl, Nat.le_of_ble_eq_true rfl⟩ rfl hl.1 rfl (Nat.le_of_ble_eq_true rfl) dX7_check_82 ⟨Nat.zero_le _, Nat.zero_le _⟩) hE (fun H locs hE => ?_)
          exact J85 l2 l3 l4 w62 ls _ _ h (lv_sub hl [0, 1, 2, 3] rfl) hE
  refine lv_aload_n hx hb dX7_check_0 rfl (lv_at hl 0 rfl) ?_
  obtain ⟨x10001, ex10001, h⟩ := zbdE h
  refine zr_getI S hK hE zcl_X7 (zc_0 w) 9 (Nat.le_of_ble_eq_true rfl) rfl qf_X7_344 dX7_check_1 ex10001 ?_
  refine lv_istore_n (lv' := [(2, .int x10001), (0, .ref (ad 0)), (1, .int a1)]) hx hb dX7_check_4 rfl hl (by decide) rfl (fun ls hl => ?_)
  refine lv_aload_n hx hb dX7_check_5 rfl (lv_at hl 1 rfl) ?_
  refine lv_iconst (v := 0) hx hb dX7_check_6 (by decide) ?_
  obtain ⟨w10002, ew10002, h⟩ := zbdE h
  refine zr_putI S hK hE zcl_X7 (zc_0 w) 9 (Nat.le_of_ble_eq_true rfl) rfl rfl rfl qf_X7_344 dX7_check_7 ew10002 (fun H locs hE => ?_)
  refine lv_iload_n hx hb dX7_check_10 rfl (lv_at hl 2 rfl) ?_
  refine lv_iconst (v := 1) hx hb dX7_check_11 (by decide) ?_
  refine lv_bipush (v := 30) hx hb dX7_check_12 (by decide) ?_
  obtain ⟨x10003, w10004, ew10004, h⟩ := zbd2E h
  refine zr_i (zr_runS (As := [.int a1, .int 1, .int 30]) S hX hE (kX7_within l D tc lo ad fr zq a1 1 30 w10002 x10003 w10004 ew10004) zyX7_within qm_X7_61 ⟨rfl, rfl⟩ ⟨Nat.le_of_ble_eq_true rfl, Nat.le_of_ble_eq_true rfl⟩ rfl hl.1 rfl (Nat.le_of_ble_eq_true rfl) dX7_check_14 ⟨Nat.zero_le _, Nat.zero_le _⟩) hE (fun H locs hE => ?_)
  refine lv_if_ne (tgt := 23) hx hb dX7_check_17 (by decide) (fun c10005 => ?_) (fun c10005 => ?_)
  · have h := zif' c10005 h
    refine lv_aload_n hx hb dX7_check_23 rfl (lv_at hl 1 rfl) ?_
    obtain ⟨x10006, ex10006, h⟩ := zbdE h
    refine zr_getI S hK hE zcl_X7 (zc_0 w10004) 8 (Nat.le_of_ble_eq_true rfl) rfl qf_X7_347 dX7_check_24 ex10006 ?_
    refine lv_if_ne (tgt := 33) hx hb dX7_check_27 (by decide) (fun c10007 => ?_) (fun c10007 => ?_)
    · have h := zif' c10007 h
      refine lv_aload_n hx hb dX7_check_33 rfl (lv_at hl 1 rfl) ?_
      refine zr_getA S hK hE zcl_X7 (zc_0 w10004) 2 (Nat.le_of_ble_eq_true rfl) (q := 21) rfl qf_X7_19 dX7_check_34 ?_
      refine lv_aload_n hx hb dX7_check_37 rfl (lv_at hl 1 rfl) ?_
      refine zr_getA S hK hE zcl_X7 (zc_0 w10004) 1 (Nat.le_of_ble_eq_true rfl) (q := 11) rfl qf_X7_16 dX7_check_38 ?_
      obtain ⟨w10008, ew10008, h⟩ := zbdE h
      refine zr_v (zr_runV (As := [.ref (ad 11)]) S hX hE (kX6_takeFrom l D tc lo ad fr zq 21 11 w10004 w10008 ew10008) zyX6_takeFrom qm_X7_241 zcl_X6 rfl (zcW0 zW21 w10004) ⟨rfl, rfl⟩ ⟨Nat.le_of_ble_eq_true rfl, Nat.le_of_ble_eq_true rfl⟩ rfl hl.1 rfl (Nat.le_of_ble_eq_true rfl) dX7_check_41 ⟨Nat.zero_le _, Nat.zero_le _⟩) hE (fun H locs hE => ?_)
      refine lv_iconst (v := 2) hx hb dX7_check_44 (by decide) ?_
      refine lv_iload_n hx hb dX7_check_45 rfl (lv_at hl 2 rfl) ?_
      refine lv_sipush (v := 9999) hx hb dX7_check_46 (by decide) ?_
      refine lv_aload_n hx hb dX7_check_49 rfl (lv_at hl 1 rfl) ?_
      refine zr_getA S hK hE zcl_X7 (zc_0 w10008) 1 (Nat.le_of_ble_eq_true rfl) (q := 11) rfl qf_X7_16 dX7_check_50 ?_
      obtain ⟨x10009, ex10009, h⟩ := zbdE h
      refine zr_getI S hK hE zcl_X6 (zcW0 zW11 w10008) 13 (Nat.le_of_ble_eq_true rfl) rfl qf_X7_177 dX7_check_53 ex10009 ?_
      refine lv_isub hx hb dX7_check_56 ?_
      refine zr_mmin S zmath qm_X7_143 hl.1 ⟨Nat.le_of_ble_eq_true rfl, Nat.le_of_ble_eq_true rfl, Nat.zero_le _, Nat.zero_le _⟩ dX7_check_57 ?_
      refine lv_imul hx hb dX7_check_60 ?_
      obtain ⟨x10010, ex10010, h⟩ := zbdE h
      refine zr_topi ex10010 ?_
      refine lv_istore_n (lv' := [(3, .int x10010), (2, .int x10001), (0, .ref (ad 0)), (1, .int a1)]) hx hb dX7_check_61 rfl hl (by decide) rfl (fun ls hl => ?_)
      refine lv_iconst (v := 0) hx hb dX7_check_62 (by decide) ?_
      refine lv_istore (lv' := [(4, .int 0), (3, .int x10010), (2, .int x10001), (0, .ref (ad 0)), (1, .int a1)]) hx hb dX7_check_63 hl (by decide) rfl (fun ls hl => ?_)
      exact L65 zfuel x10001 x10010 0 w10008 ls _ _ h (lv_sub hl [3, 2, 1, 0] rfl) hE
    · have h := zif c10007 h
      refine zr_ldc S qc_X7_160 dX7_check_30 ?_
      exact zr_iret S hE hr hlk h dX7_check_32
  · have h := zif c10005 h
    refine zr_ldc S qc_X7_68 dX7_check_20 ?_
    exact zr_iret S hE hr hlk h dX7_check_22
set_option maxHeartbeats 4000000 in
set_option maxRecDepth 100000 in
theorem kX7_isSheet (l : Launch) (D : va_G) (tc : Nat → ClassId) (lo : Nat) (ad : Nat → Nat) (fr : va_W) (zq : zz_Q) (a1 : Int32) (w : zz_W) (r : Int32) (w_ : zz_W) (h : fX7_isSheet a1 w = some (r, w_)) : zMi l yX7_isSheet cX7_isSheet 1 (some .boolean) { frames := 1, cells := 0, slots := 0, locals := 22 } D tc lo ad zshC znnC fr zq [.int a1] w r w_ := by
  refine zr_entry (by decide) (Nat.le_of_ble_eq_true rfl) fun p e s m args below meth c ls S hX hr hlk hE hl => ?_
  have S : CallFix p m c cX7_isSheet 1 s args (Cond.code yX7_isSheet cX7_isSheet 1 (some .boolean) :: zw_tb) RX7 := S
  have hx := S.1
  have hb := S.2.1
  have hK := hX.2.1
  have hl : lv_has ls 1 [(0, .int a1)] := hl
  unfold fX7_isSheet at h
  refine lv_iload_n hx hb dX7_isSheet_0 rfl (lv_at hl 0 rfl) ?_
  refine lv_iconst (v := 0) hx hb dX7_isSheet_1 (by decide) ?_
  refine lv_iconst (v := 3) hx hb dX7_isSheet_2 (by decide) ?_
  obtain ⟨x10001, w10002, ew10002, h⟩ := zbd2E h
  refine zr_i (zr_runS (As := [.int a1, .int 0, .int 3]) S hX hE (kX7_within l D tc lo ad fr zq a1 0 3 w x10001 w10002 ew10002) zyX7_within qm_X7_61 ⟨rfl, rfl⟩ ⟨Nat.le_of_ble_eq_true rfl, Nat.le_of_ble_eq_true rfl⟩ rfl hl.1 rfl (Nat.le_of_ble_eq_true rfl) dX7_isSheet_3 ⟨Nat.zero_le _, Nat.zero_le _⟩) hE (fun H locs hE => ?_)
  obtain ⟨x10003, ex10003, h⟩ := zbdE h
  obtain ⟨ezx10003, enx10003⟩ := zboo_in ex10003
  refine zr_topi (congrArg some ezx10003) ?_
  exact zr_zret S hE hr hlk enx10003 h dX7_isSheet_6
set_option maxHeartbeats 4000000 in
set_option maxRecDepth 100000 in
theorem kX7_copy (l : Launch) (D : va_G) (tc : Nat → ClassId) (lo : Nat) (ad : Nat → Nat) (fr : va_W) (zq : zz_Q) (a1 : Int32) (a2 : Int32) (a3 : Int32) (a4 : Int32) (a5 : Int32) (w : zz_W) (r : Int32) (w_ : zz_W) (h : fX7_copy a1 a2 a3 a4 a5 w = some (r, w_)) : zMi l yX7_copy cX7_copy 8 (some .int) { frames := 2, cells := 0, slots := 0, locals := 42 } D tc lo ad zshC znnC fr zq [.ref (ad 0), .int a1, .int a2, .int a3, .int a4, .int a5] w r w_ := by
  refine zr_entry (by decide) (Nat.le_of_ble_eq_true rfl) fun p e s m args below meth c ls S hX hr hlk hE hl => ?_
  have S : CallFix p m c cX7_copy 8 s args (Cond.code yX7_copy cX7_copy 8 (some .int) :: zw_tb) RX7 := S
  have hx := S.1
  have hb := S.2.1
  have hK := hX.2.1
  have hl : lv_has ls 8 [(0, .ref (ad 0)), (1, .int a1), (2, .int a2), (3, .int a3), (4, .int a4), (5, .int a5)] := hl
  unfold fX7_copy at h
  refine lv_iload_n hx hb dX7_copy_0 rfl (lv_at hl 1 rfl) ?_
  obtain ⟨x10001, w10002, ew10002, h⟩ := zbd2E h
  refine zr_i (zr_runS (As := [.int a1]) S hX hE (kX7_isSheet l D tc lo ad fr zq a1 w x10001 w10002 ew10002) zyX7_isSheet qm_X7_203 ⟨rfl, rfl⟩ ⟨Nat.le_of_ble_eq_true rfl, Nat.le_of_ble_eq_true rfl⟩ rfl hl.1 rfl (Nat.le_of_ble_eq_true rfl) dX7_copy_1 ⟨Nat.zero_le _, Nat.zero_le _⟩) hE (fun H locs hE => ?_)
  refine lv_if_eq (tgt := 14) hx hb dX7_copy_4 (by decide) (fun c10003 => ?_) (fun c10003 => ?_)
  · have h := zif c10003 h
    refine zr_ldc S qc_X7_68 dX7_copy_14 ?_
    exact zr_iret S hE hr hlk h dX7_copy_16
  · have h := zif' c10003 h
    refine lv_iload_n hx hb dX7_copy_7 rfl (lv_at hl 3 rfl) ?_
    obtain ⟨x10004, w10005, ew10005, h⟩ := zbd2E h
    refine zr_i (zr_runS (As := [.int a3]) S hX hE (kX7_isSheet l D tc lo ad fr zq a3 w10002 x10004 w10005 ew10005) zyX7_isSheet qm_X7_203 ⟨rfl, rfl⟩ ⟨Nat.le_of_ble_eq_true rfl, Nat.le_of_ble_eq_true rfl⟩ rfl hl.1 rfl (Nat.le_of_ble_eq_true rfl) dX7_copy_8 ⟨Nat.zero_le _, Nat.zero_le _⟩) hE (fun H locs hE => ?_)
    refine lv_if_ne (tgt := 17) hx hb dX7_copy_11 (by decide) (fun c10006 => ?_) (fun c10006 => ?_)
    · have h := zif' c10006 h
      refine lv_aload_n hx hb dX7_copy_17 rfl (lv_at hl 0 rfl) ?_
      refine zr_getA S hK hE zcl_X7 (zc_0 w10005) 5 (Nat.le_of_ble_eq_true rfl) (q := 39) rfl qf_X7_38 dX7_copy_18 ?_
      refine lv_iload_n hx hb dX7_copy_21 rfl (lv_at hl 1 rfl) ?_
      obtain ⟨q10007, eq10007, h⟩ := zbdE h
      refine zr_aald4 S hK hE (zc_39 w10005) dX7_copy_22 eq10007 ?_
      refine lv_astore (lv' := [(6, .ref (ad q10007)), (0, .ref (ad 0)), (1, .int a1), (2, .int a2), (3, .int a3), (4, .int a4), (5, .int a5)]) hx hb dX7_copy_23 hl (by decide) rfl (fun ls hl => ?_)
      refine lv_aload_n hx hb dX7_copy_25 rfl (lv_at hl 1 rfl) ?_
      refine zr_getA S hK hE zcl_X7 (zc_0 w10005) 5 (Nat.le_of_ble_eq_true rfl) (q := 39) rfl qf_X7_38 dX7_copy_26 ?_
      refine lv_iload_n hx hb dX7_copy_29 rfl (lv_at hl 4 rfl) ?_
      obtain ⟨q10008, eq10008, h⟩ := zbdE h
      refine zr_aald4 S hK hE (zc_39 w10005) dX7_copy_30 eq10008 ?_
      refine lv_astore (lv' := [(7, .ref (ad q10008)), (6, .ref (ad q10007)), (0, .ref (ad 0)), (1, .int a1), (2, .int a2), (3, .int a3), (4, .int a4), (5, .int a5)]) hx hb dX7_copy_31 hl (by decide) rfl (fun ls hl => ?_)
      refine lv_aload hx hb dX7_copy_33 (lv_at hl 1 rfl) ?_
      obtain ⟨x10009, w10010, ew10010, h⟩ := zbd2E h
      refine zr_i (zr_runV (As := []) S hX hE (kX2_isMissing l D tc lo ad fr zq q10007 w10005 x10009 w10010 ew10010) zyX2_isMissing qm_X7_234 zcl_X2 rfl (zcS0 (zq4_S eq10007) w10005) ⟨rfl, rfl⟩ ⟨Nat.le_of_ble_eq_true rfl, Nat.le_of_ble_eq_true rfl⟩ rfl hl.1 rfl (Nat.le_of_ble_eq_true rfl) dX7_copy_35 ⟨Nat.zero_le _, Nat.zero_le _⟩) hE (fun H locs hE => ?_)
      refine lv_if_ne (tgt := 49) hx hb dX7_copy_38 (by decide) (fun c10011 => ?_) (fun c10011 => ?_)
      · have h := zif' c10011 h
        refine zr_ldc S qc_X7_237 dX7_copy_49 ?_
        exact zr_iret S hE hr hlk h dX7_copy_51
      · have h := zif c10011 h
        refine lv_aload hx hb dX7_copy_41 (lv_at hl 0 rfl) ?_
        obtain ⟨x10012, w10013, ew10013, h⟩ := zbd2E h
        refine zr_i (zr_runV (As := []) S hX hE (kX2_isMissing l D tc lo ad fr zq q10008 w10010 x10012 w10013 ew10013) zyX2_isMissing qm_X7_234 zcl_X2 rfl (zcS0 (zq4_S eq10008) w10010) ⟨rfl, rfl⟩ ⟨Nat.le_of_ble_eq_true rfl, Nat.le_of_ble_eq_true rfl⟩ rfl hl.1 rfl (Nat.le_of_ble_eq_true rfl) dX7_copy_43 ⟨Nat.zero_le _, Nat.zero_le _⟩) hE (fun H locs hE => ?_)
        refine lv_if_eq (tgt := 52) hx hb dX7_copy_46 (by decide) (fun c10014 => ?_) (fun c10014 => ?_)
        · have h := zif c10014 h
          refine lv_aload hx hb dX7_copy_52 (lv_at hl 1 rfl) ?_
          obtain ⟨x10015, ex10015, h⟩ := zbdE h
          refine zr_getI S hK hE zcl_X2 (zcS0 (zq4_S eq10007) w10013) 1 (Nat.le_of_ble_eq_true rfl) rfl qf_X7_298 dX7_copy_54 ex10015 ?_
          refine lv_aload hx hb dX7_copy_57 (lv_at hl 0 rfl) ?_
          obtain ⟨x10016, ex10016, h⟩ := zbdE h
          refine zr_getI S hK hE zcl_X2 (zcS0 (zq4_S eq10008) w10013) 1 (Nat.le_of_ble_eq_true rfl) rfl qf_X7_298 dX7_copy_59 ex10016 ?_
          refine lv_icmp_eq (tgt := 68) hx hb dX7_copy_62 (by decide) (fun c10017 => ?_) (fun c10017 => ?_)
          · have h := zif c10017 h
            refine lv_aload hx hb dX7_copy_68 (lv_at hl 1 rfl) ?_
            refine lv_iload_n hx hb dX7_copy_70 rfl (lv_at hl 4 rfl) ?_
            refine lv_iload hx hb dX7_copy_71 (lv_at hl 7 rfl) ?_
            obtain ⟨x10018, w10019, ew10019, h⟩ := zbd2E h
            refine zr_i (zr_runV (As := [.int a2, .int a5]) S hX hE (kX2_hasPlaces l D tc lo ad fr zq q10007 a2 a5 w10013 x10018 w10019 ew10019) zyX2_hasPlaces qm_X7_314 zcl_X2 rfl (zcS0 (zq4_S eq10007) w10013) ⟨rfl, rfl⟩ ⟨Nat.le_of_ble_eq_true rfl, Nat.le_of_ble_eq_true rfl⟩ rfl hl.1 rfl (Nat.le_of_ble_eq_true rfl) dX7_copy_73 ⟨Nat.zero_le _, Nat.zero_le _⟩) hE (fun H locs hE => ?_)
            refine lv_if_eq (tgt := 91) hx hb dX7_copy_76 (by decide) (fun c10020 => ?_) (fun c10020 => ?_)
            · have h := zif c10020 h
              refine zr_ldcw S qc_X7_297 dX7_copy_91 ?_
              exact zr_iret S hE hr hlk h dX7_copy_94
            · have h := zif' c10020 h
              refine lv_aload hx hb dX7_copy_79 (lv_at hl 0 rfl) ?_
              refine lv_iload hx hb dX7_copy_81 (lv_at hl 6 rfl) ?_
              refine lv_iload hx hb dX7_copy_83 (lv_at hl 7 rfl) ?_
              obtain ⟨x10021, w10022, ew10022, h⟩ := zbd2E h
              refine zr_i (zr_runV (As := [.int a4, .int a5]) S hX hE (kX2_hasPlaces l D tc lo ad fr zq q10008 a4 a5 w10019 x10021 w10022 ew10022) zyX2_hasPlaces qm_X7_314 zcl_X2 rfl (zcS0 (zq4_S eq10008) w10019) ⟨rfl, rfl⟩ ⟨Nat.le_of_ble_eq_true rfl, Nat.le_of_ble_eq_true rfl⟩ rfl hl.1 rfl (Nat.le_of_ble_eq_true rfl) dX7_copy_85 ⟨Nat.zero_le _, Nat.zero_le _⟩) hE (fun H locs hE => ?_)
              refine lv_if_ne (tgt := 95) hx hb dX7_copy_88 (by decide) (fun c10023 => ?_) (fun c10023 => ?_)
              · have h := zif' c10023 h
                refine lv_aload hx hb dX7_copy_95 (lv_at hl 1 rfl) ?_
                refine zr_getA S hK hE zcl_X2 (zcS0 (zq4_S eq10007) w10022) 0 (Nat.le_of_ble_eq_true rfl) (q := q10007 + 1) rfl qf_X7_301 dX7_copy_97 ?_
                refine lv_iload_n hx hb dX7_copy_100 rfl (lv_at hl 4 rfl) ?_
                refine lv_aload hx hb dX7_copy_101 (lv_at hl 0 rfl) ?_
                refine zr_getA S hK hE zcl_X2 (zcS0 (zq4_S eq10008) w10022) 0 (Nat.le_of_ble_eq_true rfl) (q := q10008 + 1) rfl qf_X7_301 dX7_copy_103 ?_
                refine lv_iload hx hb dX7_copy_106 (lv_at hl 6 rfl) ?_
                refine lv_iload hx hb dX7_copy_108 (lv_at hl 7 rfl) ?_
                obtain ⟨w10024, ew10024, h⟩ := zbdE h
                refine zr_cpI S hK hE zcpy qm_X7_317 hl.1 (zcS1 (zq4_S eq10007) w10022) (zcS1 (zq4_S eq10008) w10022) ⟨Nat.le_of_ble_eq_true rfl, Nat.le_of_ble_eq_true rfl⟩ dX7_copy_110 ew10024 (fun H locs hE => ?_)
                refine lv_iload hx hb dX7_copy_113 (lv_at hl 7 rfl) ?_
                exact zr_iret S hE hr hlk h dX7_copy_115
              · have h := zif c10023 h
                refine zr_ldcw S qc_X7_297 dX7_copy_91 ?_
                exact zr_iret S hE hr hlk h dX7_copy_94
          · have h := zif' c10017 h
            refine zr_ldc S qc_X7_120 dX7_copy_65 ?_
            exact zr_iret S hE hr hlk h dX7_copy_67
        · have h := zif' c10014 h
          refine zr_ldc S qc_X7_237 dX7_copy_49 ?_
          exact zr_iret S hE hr hlk h dX7_copy_51
    · have h := zif c10006 h
      refine zr_ldc S qc_X7_68 dX7_copy_14 ?_
      exact zr_iret S hE hr hlk h dX7_copy_16
set_option maxHeartbeats 4000000 in
set_option maxRecDepth 100000 in
theorem kX7_count (l : Launch) (D : va_G) (tc : Nat → ClassId) (lo : Nat) (ad : Nat → Nat) (fr : va_W) (zq : zz_Q) (a1 : Int32) (w : zz_W) (r : Int32) (w_ : zz_W) (h : fX7_count a1 w = some (r, w_)) : zMi l yX7_count cX7_count 2 (some .int) { frames := 0, cells := 0, slots := 0, locals := 0 } D tc lo ad zshC znnC fr zq [.ref (ad 0), .int a1] w r w_ := by
  refine zr_entry (by decide) (Nat.le_of_ble_eq_true rfl) fun p e s m args below meth c ls S hX hr hlk hE hl => ?_
  have S : CallFix p m c cX7_count 2 s args (Cond.code yX7_count cX7_count 2 (some .int) :: zw_tb) RX7 := S
  have hx := S.1
  have hb := S.2.1
  have hK := hX.2.1
  have hl : lv_has ls 2 [(0, .ref (ad 0)), (1, .int a1)] := hl
  unfold fX7_count at h
  refine lv_iload_n hx hb dX7_count_0 rfl (lv_at hl 1 rfl) ?_
  by_cases c10002 : a1 = 0
  · refine lv_tableIn (off := 47) (tgt := 48) hx hb dX7_count_1 (by rw [c10002]; decide) (by rw [c10002]; decide) (by rw [c10002]; decide) (by decide) ?_
    have h := zif c10002 h
    refine lv_aload_n hx hb dX7_count_48 rfl (lv_at hl 0 rfl) ?_
    refine zr_getA S hK hE zcl_X7 (zc_0 w) 0 (Nat.le_of_ble_eq_true rfl) (q := 1) rfl qf_X7_10 dX7_count_49 ?_
    obtain ⟨x10001, ex10001, h⟩ := zbdE h
    refine zr_getI S hK hE zcl_X6 (zcW0 zW1 w) 9 (Nat.le_of_ble_eq_true rfl) rfl qf_X7_69 dX7_count_52 ex10001 ?_
    exact zr_iret S hE hr hlk h dX7_count_55
  have h := zif' c10002 h
  by_cases c10004 : a1 = 1
  · refine lv_tableIn (off := 55) (tgt := 56) hx hb dX7_count_1 (by rw [c10004]; decide) (by rw [c10004]; decide) (by rw [c10004]; decide) (by decide) ?_
    have h := zif c10004 h
    refine lv_aload_n hx hb dX7_count_56 rfl (lv_at hl 0 rfl) ?_
    refine zr_getA S hK hE zcl_X7 (zc_0 w) 0 (Nat.le_of_ble_eq_true rfl) (q := 1) rfl qf_X7_10 dX7_count_57 ?_
    obtain ⟨x10003, ex10003, h⟩ := zbdE h
    refine zr_getI S hK hE zcl_X6 (zcW0 zW1 w) 13 (Nat.le_of_ble_eq_true rfl) rfl qf_X7_177 dX7_count_60 ex10003 ?_
    exact zr_iret S hE hr hlk h dX7_count_63
  have h := zif' c10004 h
  by_cases c10006 : a1 = 2
  · refine lv_tableIn (off := 63) (tgt := 64) hx hb dX7_count_1 (by rw [c10006]; decide) (by rw [c10006]; decide) (by rw [c10006]; decide) (by decide) ?_
    have h := zif c10006 h
    refine lv_aload_n hx hb dX7_count_64 rfl (lv_at hl 0 rfl) ?_
    refine zr_getA S hK hE zcl_X7 (zc_0 w) 0 (Nat.le_of_ble_eq_true rfl) (q := 1) rfl qf_X7_10 dX7_count_65 ?_
    obtain ⟨x10005, ex10005, h⟩ := zbdE h
    refine zr_getI S hK hE zcl_X6 (zcW0 zW1 w) 11 (Nat.le_of_ble_eq_true rfl) rfl qf_X7_154 dX7_count_68 ex10005 ?_
    exact zr_iret S hE hr hlk h dX7_count_71
  have h := zif' c10006 h
  by_cases c10008 : a1 = 3
  · refine lv_tableIn (off := 71) (tgt := 72) hx hb dX7_count_1 (by rw [c10008]; decide) (by rw [c10008]; decide) (by rw [c10008]; decide) (by decide) ?_
    have h := zif c10008 h
    refine lv_aload_n hx hb dX7_count_72 rfl (lv_at hl 0 rfl) ?_
    refine zr_getA S hK hE zcl_X7 (zc_0 w) 0 (Nat.le_of_ble_eq_true rfl) (q := 1) rfl qf_X7_10 dX7_count_73 ?_
    obtain ⟨x10007, ex10007, h⟩ := zbdE h
    refine zr_getI S hK hE zcl_X6 (zcW0 zW1 w) 12 (Nat.le_of_ble_eq_true rfl) rfl qf_X7_157 dX7_count_76 ex10007 ?_
    exact zr_iret S hE hr hlk h dX7_count_79
  have h := zif' c10008 h
  by_cases c10010 : a1 = 4
  · refine lv_tableIn (off := 79) (tgt := 80) hx hb dX7_count_1 (by rw [c10010]; decide) (by rw [c10010]; decide) (by rw [c10010]; decide) (by decide) ?_
    have h := zif c10010 h
    refine lv_aload_n hx hb dX7_count_80 rfl (lv_at hl 0 rfl) ?_
    refine zr_getA S hK hE zcl_X7 (zc_0 w) 0 (Nat.le_of_ble_eq_true rfl) (q := 1) rfl qf_X7_10 dX7_count_81 ?_
    obtain ⟨x10009, ex10009, h⟩ := zbdE h
    refine zr_getI S hK hE zcl_X6 (zcW0 zW1 w) 15 (Nat.le_of_ble_eq_true rfl) rfl qf_X7_263 dX7_count_84 ex10009 ?_
    exact zr_iret S hE hr hlk h dX7_count_87
  have h := zif' c10010 h
  by_cases c10012 : a1 = 5
  · refine lv_tableIn (off := 87) (tgt := 88) hx hb dX7_count_1 (by rw [c10012]; decide) (by rw [c10012]; decide) (by rw [c10012]; decide) (by decide) ?_
    have h := zif c10012 h
    refine lv_aload_n hx hb dX7_count_88 rfl (lv_at hl 0 rfl) ?_
    obtain ⟨x10011, ex10011, h⟩ := zbdE h
    refine zr_getI S hK hE zcl_X7 (zc_0 w) 9 (Nat.le_of_ble_eq_true rfl) rfl qf_X7_344 dX7_count_89 ex10011 ?_
    exact zr_iret S hE hr hlk h dX7_count_92
  have h := zif' c10012 h
  by_cases c10014 : a1 = 6
  · refine lv_tableIn (off := 92) (tgt := 93) hx hb dX7_count_1 (by rw [c10014]; decide) (by rw [c10014]; decide) (by rw [c10014]; decide) (by decide) ?_
    have h := zif c10014 h
    refine lv_aload_n hx hb dX7_count_93 rfl (lv_at hl 0 rfl) ?_
    refine zr_getA S hK hE zcl_X7 (zc_0 w) 4 (Nat.le_of_ble_eq_true rfl) (q := 36) rfl qf_X7_32 dX7_count_94 ?_
    obtain ⟨x10013, ex10013, h⟩ := zbdE h
    refine zr_getI S hK hE zcl_X4 (zc_36 w) 0 (Nat.le_of_ble_eq_true rfl) rfl qf_X7_254 dX7_count_97 ex10013 ?_
    exact zr_iret S hE hr hlk h dX7_count_100
  have h := zif' c10014 h
  by_cases c10016 : a1 = 7
  · refine lv_tableIn (off := 100) (tgt := 101) hx hb dX7_count_1 (by rw [c10016]; decide) (by rw [c10016]; decide) (by rw [c10016]; decide) (by decide) ?_
    have h := zif c10016 h
    refine lv_aload_n hx hb dX7_count_101 rfl (lv_at hl 0 rfl) ?_
    refine zr_getA S hK hE zcl_X7 (zc_0 w) 0 (Nat.le_of_ble_eq_true rfl) (q := 1) rfl qf_X7_10 dX7_count_102 ?_
    obtain ⟨x10015, ex10015, h⟩ := zbdE h
    refine zr_getI S hK hE zcl_X6 (zcW0 zW1 w) 14 (Nat.le_of_ble_eq_true rfl) rfl qf_X7_151 dX7_count_105 ex10015 ?_
    exact zr_iret S hE hr hlk h dX7_count_108
  have h := zif' c10016 h
  refine lv_tableOut (tgt := 109) hx hb dX7_count_1 (by have tc10002 := lv_neT c10002 (a := 0) (by decide); have tc10004 := lv_neT c10004 (a := 1) (by decide); have tc10006 := lv_neT c10006 (a := 2) (by decide); have tc10008 := lv_neT c10008 (a := 3) (by decide); have tc10010 := lv_neT c10010 (a := 4) (by decide); have tc10012 := lv_neT c10012 (a := 5) (by decide); have tc10014 := lv_neT c10014 (a := 6) (by decide); have tc10016 := lv_neT c10016 (a := 7) (by decide); omega) (by decide) ?_
  refine zr_ldc S qc_X7_68 dX7_count_109 ?_
  exact zr_iret S hE hr hlk h dX7_count_111
set_option maxHeartbeats 4000000 in
set_option maxRecDepth 100000 in
theorem kX7_deal (l : Launch) (D : va_G) (tc : Nat → ClassId) (lo : Nat) (ad : Nat → Nat) (fr : va_W) (zq : zz_Q) (a1 : Int32) (w : zz_W) (r : Int32) (w_ : zz_W) (h : fX7_deal a1 w = some (r, w_)) : zMi l yX7_deal cX7_deal 4 (some .int) { frames := 6, cells := 0, slots := 0, locals := 138 } D tc lo ad zshC znnC fr zq [.ref (ad 0), .int a1] w r w_ := by
  refine zr_entry (by decide) (Nat.le_of_ble_eq_true rfl) fun p e s m args below meth c ls S hX hr hlk hE hl => ?_
  have S : CallFix p m c cX7_deal 4 s args (Cond.code yX7_deal cX7_deal 4 (some .int) :: zw_tb) RX7 := S
  have hx := S.1
  have hb := S.2.1
  have hK := hX.2.1
  have hl : lv_has ls 4 [(0, .ref (ad 0)), (1, .int a1)] := hl
  unfold fX7_deal at h
  have L30 : ∀ (n : Nat) (l2 : Int32) (l3 : Int32) (w : zz_W) (ls : Array Slot) (H : Heap) (locs : List Loc), fX7_deal_30 a1 n l2 l3 w = some (r, w_) → lv_has ls 4 [(0, .ref (ad 0)), (2, .int l2), (3, .int l3)] → zE D tc lo ad zshC znnC fr w s.heap H locs → W p l e { frames := 6, cells := 0, slots := 0, locals := 138 } s m args below meth c H locs 0 0 (zZi D tc lo ad zshC znnC fr below args s r w_) (F0 m 30 ls []) := by
    intro n30
    induction n30 with
    | zero => intro l2 l3 w ls H locs h hl hE; rw [fX7_deal_30] at h; cases h
    | succ n30 ih30 =>
      intro l2 l3 w ls H locs h hl hE
      rw [fX7_deal_30] at h
      refine lv_iload_n hx hb dX7_deal_30 rfl (lv_at hl 2 rfl) ?_
      refine lv_iload_n hx hb dX7_deal_31 rfl (lv_at hl 1 rfl) ?_
      refine lv_icmp_ge (tgt := 48) hx hb dX7_deal_32 (by decide) (fun c17 => ?_) (fun c17 => ?_)
      · have h := zif c17 h
        refine lv_iload_n hx hb dX7_deal_48 rfl (lv_at hl 1 rfl) ?_
        exact zr_iret S hE hr hlk h dX7_deal_49
      · have h := zif' c17 h
        refine lv_aload_n hx hb dX7_deal_35 rfl (lv_at hl 0 rfl) ?_
        refine zr_getA S hK hE zcl_X7 (zc_0 w) 0 (Nat.le_of_ble_eq_true rfl) (q := 1) rfl qf_X7_10 dX7_deal_36 ?_
        obtain ⟨w18, ew18, h⟩ := zbdE h
        refine zr_v (zr_runV (As := []) S hX hE (kX6_drawRun l D tc lo ad fr zq 1 w w18 ew18) zyX6_drawRun qm_X7_148 zcl_X6 rfl (zcW0 zW1 w) ⟨rfl, rfl⟩ ⟨Nat.le_of_ble_eq_true rfl, Nat.le_of_ble_eq_true rfl⟩ rfl hl.1 rfl (Nat.le_of_ble_eq_true rfl) dX7_deal_39 ⟨Nat.zero_le _, Nat.zero_le _⟩) hE (fun H locs hE => ?_)
        obtain ⟨x19, ex19, h⟩ := zbdE h
        refine lv_iinc (v := x19) (lv' := [(3, .int x19), (0, .ref (ad 0)), (2, .int l2)]) hx hb dX7_deal_42 hl (k := 2) rfl (zinc (k := 1) (by decide) ex19) (by decide) rfl (fun ls hl => ?_)
        refine lv_goto (tgt := 30) hx hb dX7_deal_45 (by decide) ?_
        exact ih30 l2 x19 w18 ls _ _ h (lv_sub hl [1, 2, 0] rfl) hE
  refine lv_iload_n hx hb dX7_deal_0 rfl (lv_at hl 1 rfl) ?_
  refine lv_iconst (v := 1) hx hb dX7_deal_1 (by decide) ?_
  refine lv_bipush (v := 10) hx hb dX7_deal_2 (by decide) ?_
  obtain ⟨x10001, w10002, ew10002, h⟩ := zbd2E h
  refine zr_i (zr_runS (As := [.int a1, .int 1, .int 10]) S hX hE (kX7_within l D tc lo ad fr zq a1 1 10 w x10001 w10002 ew10002) zyX7_within qm_X7_61 ⟨rfl, rfl⟩ ⟨Nat.le_of_ble_eq_true rfl, Nat.le_of_ble_eq_true rfl⟩ rfl hl.1 rfl (Nat.le_of_ble_eq_true rfl) dX7_deal_4 ⟨Nat.zero_le _, Nat.zero_le _⟩) hE (fun H locs hE => ?_)
  refine lv_if_ne (tgt := 13) hx hb dX7_deal_7 (by decide) (fun c10003 => ?_) (fun c10003 => ?_)
  · have h := zif' c10003 h
    refine lv_iload_n hx hb dX7_deal_13 rfl (lv_at hl 1 rfl) ?_
    refine lv_bipush (v := 10) hx hb dX7_deal_14 (by decide) ?_
    refine lv_aload_n hx hb dX7_deal_16 rfl (lv_at hl 0 rfl) ?_
    refine zr_getA S hK hE zcl_X7 (zc_0 w10002) 0 (Nat.le_of_ble_eq_true rfl) (q := 1) rfl qf_X7_10 dX7_deal_17 ?_
    obtain ⟨x10004, ex10004, h⟩ := zbdE h
    refine zr_getI S hK hE zcl_X6 (zcW0 zW1 w10002) 9 (Nat.le_of_ble_eq_true rfl) rfl qf_X7_69 dX7_deal_20 ex10004 ?_
    refine lv_isub hx hb dX7_deal_23 ?_
    refine zr_mmin S zmath qm_X7_143 hl.1 ⟨Nat.le_of_ble_eq_true rfl, Nat.le_of_ble_eq_true rfl, Nat.zero_le _, Nat.zero_le _⟩ dX7_deal_24 ?_
    obtain ⟨x10005, ex10005, h⟩ := zbdE h
    refine zr_topi ex10005 ?_
    refine lv_istore_n (lv' := [(2, .int x10005), (0, .ref (ad 0)), (1, .int a1)]) hx hb dX7_deal_27 rfl hl (by decide) rfl (fun ls hl => ?_)
    refine lv_iconst (v := 0) hx hb dX7_deal_28 (by decide) ?_
    refine lv_istore_n (lv' := [(3, .int 0), (2, .int x10005), (0, .ref (ad 0)), (1, .int a1)]) hx hb dX7_deal_29 rfl hl (by decide) rfl (fun ls hl => ?_)
    exact L30 zfuel x10005 0 w10002 ls _ _ h (lv_sub hl [2, 1, 0] rfl) hE
  · have h := zif c10003 h
    refine zr_ldc S qc_X7_68 dX7_deal_10 ?_
    exact zr_iret S hE hr hlk h dX7_deal_12
set_option maxHeartbeats 4000000 in
set_option maxRecDepth 100000 in
theorem kX7_isDepth (l : Launch) (D : va_G) (tc : Nat → ClassId) (lo : Nat) (ad : Nat → Nat) (fr : va_W) (zq : zz_Q) (a1 : Int32) (w : zz_W) (r : Int32) (w_ : zz_W) (h : fX7_isDepth a1 w = some (r, w_)) : zMi l yX7_isDepth cX7_isDepth 1 (some .boolean) { frames := 1, cells := 0, slots := 0, locals := 22 } D tc lo ad zshC znnC fr zq [.int a1] w r w_ := by
  refine zr_entry (by decide) (Nat.le_of_ble_eq_true rfl) fun p e s m args below meth c ls S hX hr hlk hE hl => ?_
  have S : CallFix p m c cX7_isDepth 1 s args (Cond.code yX7_isDepth cX7_isDepth 1 (some .boolean) :: zw_tb) RX7 := S
  have hx := S.1
  have hb := S.2.1
  have hK := hX.2.1
  have hl : lv_has ls 1 [(0, .int a1)] := hl
  unfold fX7_isDepth at h
  refine lv_iload_n hx hb dX7_isDepth_0 rfl (lv_at hl 0 rfl) ?_
  refine lv_iconst (v := 1) hx hb dX7_isDepth_1 (by decide) ?_
  refine lv_bipush (v := 9) hx hb dX7_isDepth_2 (by decide) ?_
  obtain ⟨x10001, w10002, ew10002, h⟩ := zbd2E h
  refine zr_i (zr_runS (As := [.int a1, .int 1, .int 9]) S hX hE (kX7_within l D tc lo ad fr zq a1 1 9 w x10001 w10002 ew10002) zyX7_within qm_X7_61 ⟨rfl, rfl⟩ ⟨Nat.le_of_ble_eq_true rfl, Nat.le_of_ble_eq_true rfl⟩ rfl hl.1 rfl (Nat.le_of_ble_eq_true rfl) dX7_isDepth_4 ⟨Nat.zero_le _, Nat.zero_le _⟩) hE (fun H locs hE => ?_)
  obtain ⟨x10003, ex10003, h⟩ := zbdE h
  obtain ⟨ezx10003, enx10003⟩ := zboo_in ex10003
  refine zr_topi (congrArg some ezx10003) ?_
  exact zr_zret S hE hr hlk enx10003 h dX7_isDepth_7
set_option maxHeartbeats 4000000 in
set_option maxRecDepth 100000 in
theorem kX7_drill (l : Launch) (D : va_G) (tc : Nat → ClassId) (lo : Nat) (ad : Nat → Nat) (fr : va_W) (zq : zz_Q) (a1 : Int32) (a2 : Int32) (w : zz_W) (r : Int32) (w_ : zz_W) (h : fX7_drill a1 a2 w = some (r, w_)) : zMi l yX7_drill cX7_drill 3 (some .int) { frames := 5, cells := 0, slots := 0, locals := 120 } D tc lo ad zshC znnC fr zq [.ref (ad 0), .int a1, .int a2] w r w_ := by
  refine zr_entry (by decide) (Nat.le_of_ble_eq_true rfl) fun p e s m args below meth c ls S hX hr hlk hE hl => ?_
  have S : CallFix p m c cX7_drill 3 s args (Cond.code yX7_drill cX7_drill 3 (some .int) :: zw_tb) RX7 := S
  have hx := S.1
  have hb := S.2.1
  have hK := hX.2.1
  have hl : lv_has ls 3 [(0, .ref (ad 0)), (1, .int a1), (2, .int a2)] := hl
  unfold fX7_drill at h
  refine lv_iload_n hx hb dX7_drill_0 rfl (lv_at hl 1 rfl) ?_
  obtain ⟨x10001, w10002, ew10002, h⟩ := zbd2E h
  refine zr_i (zr_runS (As := [.int a1]) S hX hE (kX7_isCell l D tc lo ad fr zq a1 w x10001 w10002 ew10002) zyX7_isCell qm_X7_58 ⟨rfl, rfl⟩ ⟨Nat.le_of_ble_eq_true rfl, Nat.le_of_ble_eq_true rfl⟩ rfl hl.1 rfl (Nat.le_of_ble_eq_true rfl) dX7_drill_1 ⟨Nat.zero_le _, Nat.zero_le _⟩) hE (fun H locs hE => ?_)
  refine lv_if_eq (tgt := 14) hx hb dX7_drill_4 (by decide) (fun c10003 => ?_) (fun c10003 => ?_)
  · have h := zif c10003 h
    refine zr_ldc S qc_X7_68 dX7_drill_14 ?_
    exact zr_iret S hE hr hlk h dX7_drill_16
  · have h := zif' c10003 h
    refine lv_iload_n hx hb dX7_drill_7 rfl (lv_at hl 2 rfl) ?_
    obtain ⟨x10004, w10005, ew10005, h⟩ := zbd2E h
    refine zr_i (zr_runS (As := [.int a2]) S hX hE (kX7_isDepth l D tc lo ad fr zq a2 w10002 x10004 w10005 ew10005) zyX7_isDepth qm_X7_65 ⟨rfl, rfl⟩ ⟨Nat.le_of_ble_eq_true rfl, Nat.le_of_ble_eq_true rfl⟩ rfl hl.1 rfl (Nat.le_of_ble_eq_true rfl) dX7_drill_8 ⟨Nat.zero_le _, Nat.zero_le _⟩) hE (fun H locs hE => ?_)
    refine lv_if_ne (tgt := 17) hx hb dX7_drill_11 (by decide) (fun c10006 => ?_) (fun c10006 => ?_)
    · have h := zif' c10006 h
      refine lv_aload_n hx hb dX7_drill_17 rfl (lv_at hl 0 rfl) ?_
      refine zr_getA S hK hE zcl_X7 (zc_0 w10005) 0 (Nat.le_of_ble_eq_true rfl) (q := 1) rfl qf_X7_10 dX7_drill_18 ?_
      obtain ⟨x10007, w10008, ew10008, h⟩ := zbd2E h
      refine zr_i (zr_runV (As := []) S hX hE (kX6_isBuilt l D tc lo ad fr zq 1 w10005 x10007 w10008 ew10008) zyX6_isBuilt qm_X7_164 zcl_X6 rfl (zcW0 zW1 w10005) ⟨rfl, rfl⟩ ⟨Nat.le_of_ble_eq_true rfl, Nat.le_of_ble_eq_true rfl⟩ rfl hl.1 rfl (Nat.le_of_ble_eq_true rfl) dX7_drill_21 ⟨Nat.zero_le _, Nat.zero_le _⟩) hE (fun H locs hE => ?_)
      refine lv_if_eq (tgt := 39) hx hb dX7_drill_24 (by decide) (fun c10009 => ?_) (fun c10009 => ?_)
      · have h := zif c10009 h
        refine zr_ldc S qc_X7_160 dX7_drill_39 ?_
        exact zr_iret S hE hr hlk h dX7_drill_41
      · have h := zif' c10009 h
        refine lv_aload_n hx hb dX7_drill_27 rfl (lv_at hl 0 rfl) ?_
        refine zr_getA S hK hE zcl_X7 (zc_0 w10008) 0 (Nat.le_of_ble_eq_true rfl) (q := 1) rfl qf_X7_10 dX7_drill_28 ?_
        refine lv_iload_n hx hb dX7_drill_31 rfl (lv_at hl 1 rfl) ?_
        refine lv_iload_n hx hb dX7_drill_32 rfl (lv_at hl 2 rfl) ?_
        obtain ⟨x10010, w10011, ew10011, h⟩ := zbd2E h
        refine zr_i (zr_runV (As := [.int a1, .int a2]) S hX hE (kX6_drillAt l D tc lo ad fr zq 1 a1 a2 w10008 x10010 w10011 ew10011) zyX6_drillAt qm_X7_171 zcl_X6 rfl (zcW0 zW1 w10008) ⟨rfl, rfl⟩ ⟨Nat.le_of_ble_eq_true rfl, Nat.le_of_ble_eq_true rfl⟩ rfl hl.1 rfl (Nat.le_of_ble_eq_true rfl) dX7_drill_33 ⟨Nat.zero_le _, Nat.zero_le _⟩) hE (fun H locs hE => ?_)
        refine lv_goto (tgt := 41) hx hb dX7_drill_36 (by decide) ?_
        exact zr_iret S hE hr hlk h dX7_drill_41
    · have h := zif c10006 h
      refine zr_ldc S qc_X7_68 dX7_drill_14 ?_
      exact zr_iret S hE hr hlk h dX7_drill_16
set_option maxHeartbeats 4000000 in
set_option maxRecDepth 100000 in
theorem kX7_exchange (l : Launch) (D : va_G) (tc : Nat → ClassId) (lo : Nat) (ad : Nat → Nat) (fr : va_W) (zq : zz_Q) (a1 : Nat) (a2 : Int32) (a3 : Int32) (w : zz_W) (r : Int32) (w_ : zz_W) (h : fX7_exchange a1 a2 a3 w = some (r, w_)) : zMi l yX7_exchange cX7_exchange 4 (some .int) { frames := 0, cells := 0, slots := 0, locals := 0 } D tc lo ad zshC znnC fr zq [.ref (ad a1), .int a2, .int a3] w r w_ := by
  refine zr_entry (by decide) (Nat.le_of_ble_eq_true rfl) fun p e s m args below meth c ls S hX hr hlk hE hl => ?_
  have S : CallFix p m c cX7_exchange 4 s args (Cond.code yX7_exchange cX7_exchange 4 (some .int) :: zw_tb) RX7 := S
  have hx := S.1
  have hb := S.2.1
  have hK := hX.2.1
  have hl : lv_has ls 4 [(0, .ref (ad a1)), (1, .int a2), (2, .int a3)] := hl
  unfold fX7_exchange at h
  obtain ⟨hga1, h⟩ := zgrdE h
  refine lv_aload_n hx hb dX7_exchange_0 rfl (lv_at hl 0 rfl) ?_
  refine lv_iload_n hx hb dX7_exchange_1 rfl (lv_at hl 1 rfl) ?_
  obtain ⟨x10001, ex10001, h⟩ := zbdE h
  refine zr_iald S hK hE (zc_X hga1 w) dX7_exchange_2 ex10001 ?_
  refine lv_istore_n (lv' := [(3, .int x10001), (0, .ref (ad a1)), (1, .int a2), (2, .int a3)]) hx hb dX7_exchange_3 rfl hl (by decide) rfl (fun ls hl => ?_)
  refine lv_aload_n hx hb dX7_exchange_4 rfl (lv_at hl 1 rfl) ?_
  refine lv_iload_n hx hb dX7_exchange_5 rfl (lv_at hl 2 rfl) ?_
  refine lv_iload_n hx hb dX7_exchange_6 rfl (lv_at hl 3 rfl) ?_
  obtain ⟨w10002, ew10002, h⟩ := zbdE h
  refine zr_iast S hK hE (zc_X hga1 w) dX7_exchange_7 ew10002 (fun H locs hE => ?_)
  refine lv_iload_n hx hb dX7_exchange_8 rfl (lv_at hl 0 rfl) ?_
  exact zr_iret S hE hr hlk h dX7_exchange_9
set_option maxHeartbeats 4000000 in
set_option maxRecDepth 100000 in
theorem kX7_fee (l : Launch) (D : va_G) (tc : Nat → ClassId) (lo : Nat) (ad : Nat → Nat) (fr : va_W) (zq : zz_Q) (w : zz_W) (r : Int32) (w_ : zz_W) (h : fX7_fee w = some (r, w_)) : zMi l yX7_fee cX7_fee 1 (some .int) { frames := 3, cells := 0, slots := 0, locals := 75 } D tc lo ad zshC znnC fr zq [.ref (ad 0)] w r w_ := by
  refine zr_entry (by decide) (Nat.le_of_ble_eq_true rfl) fun p e s m args below meth c ls S hX hr hlk hE hl => ?_
  have S : CallFix p m c cX7_fee 1 s args (Cond.code yX7_fee cX7_fee 1 (some .int) :: zw_tb) RX7 := S
  have hx := S.1
  have hb := S.2.1
  have hK := hX.2.1
  have hl : lv_has ls 1 [(0, .ref (ad 0))] := hl
  unfold fX7_fee at h
  refine lv_aload_n hx hb dX7_fee_0 rfl (lv_at hl 0 rfl) ?_
  refine zr_getA S hK hE zcl_X7 (zc_0 w) 0 (Nat.le_of_ble_eq_true rfl) (q := 1) rfl qf_X7_10 dX7_fee_1 ?_
  refine lv_aload_n hx hb dX7_fee_4 rfl (lv_at hl 0 rfl) ?_
  refine zr_getA S hK hE zcl_X7 (zc_0 w) 0 (Nat.le_of_ble_eq_true rfl) (q := 1) rfl qf_X7_10 dX7_fee_5 ?_
  refine zr_getA S hK hE zcl_X6 (zcW0 zW1 w) 6 (Nat.le_of_ble_eq_true rfl) (q := 1 + 7) rfl qf_X7_174 dX7_fee_8 ?_
  refine lv_iconst (v := 0) hx hb dX7_fee_11 (by decide) ?_
  obtain ⟨x10001, ex10001, h⟩ := zbdE h
  refine zr_iald S hK hE (zcW7 zW1 w) dX7_fee_12 ex10001 ?_
  refine lv_iconst (v := 1) hx hb dX7_fee_13 (by decide) ?_
  refine lv_aload_n hx hb dX7_fee_14 rfl (lv_at hl 0 rfl) ?_
  refine zr_getA S hK hE zcl_X7 (zc_0 w) 0 (Nat.le_of_ble_eq_true rfl) (q := 1) rfl qf_X7_10 dX7_fee_15 ?_
  refine zr_getA S hK hE zcl_X6 (zcW0 zW1 w) 6 (Nat.le_of_ble_eq_true rfl) (q := 1 + 7) rfl qf_X7_174 dX7_fee_18 ?_
  refine lv_iconst (v := 0) hx hb dX7_fee_21 (by decide) ?_
  obtain ⟨x10002, ex10002, h⟩ := zbdE h
  refine zr_iald S hK hE (zcW7 zW1 w) dX7_fee_22 ex10002 ?_
  refine lv_aload_n hx hb dX7_fee_23 rfl (lv_at hl 0 rfl) ?_
  refine zr_getA S hK hE zcl_X7 (zc_0 w) 0 (Nat.le_of_ble_eq_true rfl) (q := 1) rfl qf_X7_10 dX7_fee_24 ?_
  refine zr_getA S hK hE zcl_X6 (zcW0 zW1 w) 6 (Nat.le_of_ble_eq_true rfl) (q := 1 + 7) rfl qf_X7_174 dX7_fee_27 ?_
  refine lv_iconst (v := 3) hx hb dX7_fee_30 (by decide) ?_
  obtain ⟨x10003, ex10003, h⟩ := zbdE h
  refine zr_iald S hK hE (zcW7 zW1 w) dX7_fee_31 ex10003 ?_
  refine lv_iconst (v := 0) hx hb dX7_fee_32 (by decide) ?_
  obtain ⟨x10004, w10005, ew10005, h⟩ := zbd2E h
  refine zr_i (zr_runV (As := [.int x10001, .int 1, .int x10002, .int x10003, .int 0]) S hX hE (kX6_lawOr l D tc lo ad fr zq 1 x10001 1 x10002 x10003 0 w x10004 w10005 ew10005) zyX6_lawOr qm_X7_250 zcl_X6 rfl (zcW0 zW1 w) ⟨rfl, rfl⟩ ⟨Nat.le_of_ble_eq_true rfl, Nat.le_of_ble_eq_true rfl⟩ rfl hl.1 rfl (Nat.le_of_ble_eq_true rfl) dX7_fee_33 ⟨Nat.zero_le _, Nat.zero_le _⟩) hE (fun H locs hE => ?_)
  exact zr_iret S hE hr hlk h dX7_fee_36
set_option maxHeartbeats 4000000 in
set_option maxRecDepth 100000 in
theorem kX7_feed (l : Launch) (D : va_G) (tc : Nat → ClassId) (lo : Nat) (ad : Nat → Nat) (fr : va_W) (zq : zz_Q) (a1 : Int32) (a2 : Int32) (a3 : Int32) (w : zz_W) (r : Int32) (w_ : zz_W) (h : fX7_feed a1 a2 a3 w = some (r, w_)) : zMi l yX7_feed cX7_feed 4 (some .int) { frames := 1, cells := 0, slots := 0, locals := 22 } D tc lo ad zshC znnC fr zq [.ref (ad 0), .int a1, .int a2, .int a3] w r w_ := by
  refine zr_entry (by decide) (Nat.le_of_ble_eq_true rfl) fun p e s m args below meth c ls S hX hr hlk hE hl => ?_
  have S : CallFix p m c cX7_feed 4 s args (Cond.code yX7_feed cX7_feed 4 (some .int) :: zw_tb) RX7 := S
  have hx := S.1
  have hb := S.2.1
  have hK := hX.2.1
  have hl : lv_has ls 4 [(0, .ref (ad 0)), (1, .int a1), (2, .int a2), (3, .int a3)] := hl
  unfold fX7_feed at h
  refine lv_aload_n hx hb dX7_feed_0 rfl (lv_at hl 0 rfl) ?_
  refine zr_getA S hK hE zcl_X7 (zc_0 w) 4 (Nat.le_of_ble_eq_true rfl) (q := 36) rfl qf_X7_32 dX7_feed_1 ?_
  obtain ⟨x10001, ex10001, h⟩ := zbdE h
  refine zr_getI S hK hE zcl_X4 (zc_36 w) 0 (Nat.le_of_ble_eq_true rfl) rfl qf_X7_254 dX7_feed_4 ex10001 ?_
  refine lv_bipush (v := 84) hx hb dX7_feed_7 (by decide) ?_
  refine lv_icmp_le (tgt := 15) hx hb dX7_feed_9 (by decide) (fun c10002 => ?_) (fun c10002 => ?_)
  · have h := zif c10002 h
    refine lv_aload_n hx hb dX7_feed_15 rfl (lv_at hl 0 rfl) ?_
    refine zr_getA S hK hE zcl_X7 (zc_0 w) 4 (Nat.le_of_ble_eq_true rfl) (q := 36) rfl qf_X7_32 dX7_feed_16 ?_
    refine lv_iload_n hx hb dX7_feed_19 rfl (lv_at hl 1 rfl) ?_
    obtain ⟨w10003, ew10003, h⟩ := zbdE h
    refine zr_v (zr_runV (As := [.int a1]) S hX hE (kX4_addBytes l D tc lo ad fr zq a1 w w10003 ew10003) zyX4_addBytes qm_X7_257 zcl_X4 rfl (zc_36 w) ⟨rfl, rfl⟩ ⟨Nat.le_of_ble_eq_true rfl, Nat.le_of_ble_eq_true rfl⟩ rfl hl.1 rfl (Nat.le_of_ble_eq_true rfl) dX7_feed_20 ⟨Nat.zero_le _, Nat.zero_le _⟩) hE (fun H locs hE => ?_)
    refine lv_aload_n hx hb dX7_feed_23 rfl (lv_at hl 0 rfl) ?_
    refine zr_getA S hK hE zcl_X7 (zc_0 w10003) 4 (Nat.le_of_ble_eq_true rfl) (q := 36) rfl qf_X7_32 dX7_feed_24 ?_
    refine lv_iload_n hx hb dX7_feed_27 rfl (lv_at hl 2 rfl) ?_
    obtain ⟨w10004, ew10004, h⟩ := zbdE h
    refine zr_v (zr_runV (As := [.int a2]) S hX hE (kX4_addBytes l D tc lo ad fr zq a2 w10003 w10004 ew10004) zyX4_addBytes qm_X7_257 zcl_X4 rfl (zc_36 w10003) ⟨rfl, rfl⟩ ⟨Nat.le_of_ble_eq_true rfl, Nat.le_of_ble_eq_true rfl⟩ rfl hl.1 rfl (Nat.le_of_ble_eq_true rfl) dX7_feed_28 ⟨Nat.zero_le _, Nat.zero_le _⟩) hE (fun H locs hE => ?_)
    refine lv_aload_n hx hb dX7_feed_31 rfl (lv_at hl 0 rfl) ?_
    refine zr_getA S hK hE zcl_X7 (zc_0 w10004) 4 (Nat.le_of_ble_eq_true rfl) (q := 36) rfl qf_X7_32 dX7_feed_32 ?_
    refine lv_iload_n hx hb dX7_feed_35 rfl (lv_at hl 3 rfl) ?_
    obtain ⟨w10005, ew10005, h⟩ := zbdE h
    refine zr_v (zr_runV (As := [.int a3]) S hX hE (kX4_addBytes l D tc lo ad fr zq a3 w10004 w10005 ew10005) zyX4_addBytes qm_X7_257 zcl_X4 rfl (zc_36 w10004) ⟨rfl, rfl⟩ ⟨Nat.le_of_ble_eq_true rfl, Nat.le_of_ble_eq_true rfl⟩ rfl hl.1 rfl (Nat.le_of_ble_eq_true rfl) dX7_feed_36 ⟨Nat.zero_le _, Nat.zero_le _⟩) hE (fun H locs hE => ?_)
    refine lv_aload_n hx hb dX7_feed_39 rfl (lv_at hl 0 rfl) ?_
    refine zr_getA S hK hE zcl_X7 (zc_0 w10005) 4 (Nat.le_of_ble_eq_true rfl) (q := 36) rfl qf_X7_32 dX7_feed_40 ?_
    obtain ⟨x10006, ex10006, h⟩ := zbdE h
    refine zr_getI S hK hE zcl_X4 (zc_36 w10005) 0 (Nat.le_of_ble_eq_true rfl) rfl qf_X7_254 dX7_feed_43 ex10006 ?_
    exact zr_iret S hE hr hlk h dX7_feed_46
  · have h := zif' c10002 h
    refine zr_ldc S qc_X7_73 dX7_feed_12 ?_
    exact zr_iret S hE hr hlk h dX7_feed_14
set_option maxHeartbeats 4000000 in
set_option maxRecDepth 100000 in
theorem kX7_fine (l : Launch) (D : va_G) (tc : Nat → ClassId) (lo : Nat) (ad : Nat → Nat) (fr : va_W) (zq : zz_Q) (a1 : Int32) (w : zz_W) (r : Int32) (w_ : zz_W) (h : fX7_fine a1 w = some (r, w_)) : zMi l yX7_fine cX7_fine 2 (some .int) { frames := 3, cells := 0, slots := 0, locals := 75 } D tc lo ad zshC znnC fr zq [.ref (ad 0), .int a1] w r w_ := by
  refine zr_entry (by decide) (Nat.le_of_ble_eq_true rfl) fun p e s m args below meth c ls S hX hr hlk hE hl => ?_
  have S : CallFix p m c cX7_fine 2 s args (Cond.code yX7_fine cX7_fine 2 (some .int) :: zw_tb) RX7 := S
  have hx := S.1
  have hb := S.2.1
  have hK := hX.2.1
  have hl : lv_has ls 2 [(0, .ref (ad 0)), (1, .int a1)] := hl
  unfold fX7_fine at h
  refine lv_aload_n hx hb dX7_fine_0 rfl (lv_at hl 0 rfl) ?_
  refine zr_getA S hK hE zcl_X7 (zc_0 w) 0 (Nat.le_of_ble_eq_true rfl) (q := 1) rfl qf_X7_10 dX7_fine_1 ?_
  refine lv_iload_n hx hb dX7_fine_4 rfl (lv_at hl 1 rfl) ?_
  obtain ⟨x10001, w10002, ew10002, h⟩ := zbd2E h
  refine zr_i (zr_runV (As := [.int a1]) S hX hE (kX6_isRun l D tc lo ad fr zq 1 a1 w x10001 w10002 ew10002) zyX6_isRun qm_X7_78 zcl_X6 rfl (zcW0 zW1 w) ⟨rfl, rfl⟩ ⟨Nat.le_of_ble_eq_true rfl, Nat.le_of_ble_eq_true rfl⟩ rfl hl.1 rfl (Nat.le_of_ble_eq_true rfl) dX7_fine_5 ⟨Nat.zero_le _, Nat.zero_le _⟩) hE (fun H locs hE => ?_)
  refine lv_if_ne (tgt := 14) hx hb dX7_fine_8 (by decide) (fun c10003 => ?_) (fun c10003 => ?_)
  · have h := zif' c10003 h
    refine lv_aload_n hx hb dX7_fine_14 rfl (lv_at hl 0 rfl) ?_
    refine zr_getA S hK hE zcl_X7 (zc_0 w10002) 0 (Nat.le_of_ble_eq_true rfl) (q := 1) rfl qf_X7_10 dX7_fine_15 ?_
    refine lv_aload_n hx hb dX7_fine_18 rfl (lv_at hl 0 rfl) ?_
    refine zr_getA S hK hE zcl_X7 (zc_0 w10002) 0 (Nat.le_of_ble_eq_true rfl) (q := 1) rfl qf_X7_10 dX7_fine_19 ?_
    refine zr_getA S hK hE zcl_X6 (zcW0 zW1 w10002) 4 (Nat.le_of_ble_eq_true rfl) (q := 1 + 5) rfl qf_X7_93 dX7_fine_22 ?_
    refine lv_iload_n hx hb dX7_fine_25 rfl (lv_at hl 1 rfl) ?_
    obtain ⟨x10004, ex10004, h⟩ := zbdE h
    refine zr_iald S hK hE (zcW5 zW1 w10002) dX7_fine_26 ex10004 ?_
    refine lv_iconst (v := 2) hx hb dX7_fine_27 (by decide) ?_
    refine lv_aload_n hx hb dX7_fine_28 rfl (lv_at hl 0 rfl) ?_
    refine zr_getA S hK hE zcl_X7 (zc_0 w10002) 0 (Nat.le_of_ble_eq_true rfl) (q := 1) rfl qf_X7_10 dX7_fine_29 ?_
    refine zr_getA S hK hE zcl_X6 (zcW0 zW1 w10002) 4 (Nat.le_of_ble_eq_true rfl) (q := 1 + 5) rfl qf_X7_93 dX7_fine_32 ?_
    refine lv_iload_n hx hb dX7_fine_35 rfl (lv_at hl 1 rfl) ?_
    obtain ⟨x10005, ex10005, h⟩ := zbdE h
    refine zr_iald S hK hE (zcW5 zW1 w10002) dX7_fine_36 ex10005 ?_
    refine lv_aload_n hx hb dX7_fine_37 rfl (lv_at hl 0 rfl) ?_
    refine zr_getA S hK hE zcl_X7 (zc_0 w10002) 0 (Nat.le_of_ble_eq_true rfl) (q := 1) rfl qf_X7_10 dX7_fine_38 ?_
    refine zr_getA S hK hE zcl_X6 (zcW0 zW1 w10002) 3 (Nat.le_of_ble_eq_true rfl) (q := 1 + 4) rfl qf_X7_90 dX7_fine_41 ?_
    refine lv_iload_n hx hb dX7_fine_44 rfl (lv_at hl 1 rfl) ?_
    obtain ⟨x10006, ex10006, h⟩ := zbdE h
    refine zr_iald S hK hE (zcW4 zW1 w10002) dX7_fine_45 ex10006 ?_
    refine lv_iconst (v := 0) hx hb dX7_fine_46 (by decide) ?_
    obtain ⟨x10007, w10008, ew10008, h⟩ := zbd2E h
    refine zr_i (zr_runV (As := [.int x10004, .int 2, .int x10005, .int x10006, .int 0]) S hX hE (kX6_lawOr l D tc lo ad fr zq 1 x10004 2 x10005 x10006 0 w10002 x10007 w10008 ew10008) zyX6_lawOr qm_X7_250 zcl_X6 rfl (zcW0 zW1 w10002) ⟨rfl, rfl⟩ ⟨Nat.le_of_ble_eq_true rfl, Nat.le_of_ble_eq_true rfl⟩ rfl hl.1 rfl (Nat.le_of_ble_eq_true rfl) dX7_fine_47 ⟨Nat.zero_le _, Nat.zero_le _⟩) hE (fun H locs hE => ?_)
    exact zr_iret S hE hr hlk h dX7_fine_50
  · have h := zif c10003 h
    refine zr_ldc S qc_X7_68 dX7_fine_11 ?_
    exact zr_iret S hE hr hlk h dX7_fine_13
set_option maxHeartbeats 4000000 in
set_option maxRecDepth 100000 in
theorem kX7_fits (l : Launch) (D : va_G) (tc : Nat → ClassId) (lo : Nat) (ad : Nat → Nat) (fr : va_W) (zq : zz_Q) (a1 : Int32) (a2 : Int32) (w : zz_W) (r : Int32) (w_ : zz_W) (h : fX7_fits a1 a2 w = some (r, w_)) : zMi l yX7_fits cX7_fits 7 (some .int) { frames := 3, cells := 0, slots := 0, locals := 66 } D tc lo ad zshC znnC fr zq [.ref (ad 0), .int a1, .int a2] w r w_ := by
  refine zr_entry (by decide) (Nat.le_of_ble_eq_true rfl) fun p e s m args below meth c ls S hX hr hlk hE hl => ?_
  have S : CallFix p m c cX7_fits 7 s args (Cond.code yX7_fits cX7_fits 7 (some .int) :: zw_tb) RX7 := S
  have hx := S.1
  have hb := S.2.1
  have hK := hX.2.1
  have hl : lv_has ls 7 [(0, .ref (ad 0)), (1, .int a1), (2, .int a2)] := hl
  unfold fX7_fits at h
  have L72 : ∀ (n : Nat) (l1 : Int32) (l2 : Int32) (l3 : Int32) (l4 : Int32) (l5 : Int32) (w : zz_W) (ls : Array Slot) (H : Heap) (locs : List Loc), fX7_fits_72 a1 a2 n l1 l2 l3 l4 l5 w = some (r, w_) → lv_has ls 7 [(0, .ref (ad 0)), (1, .int l1), (2, .int l2), (3, .int l3), (4, .int l4), (5, .int l5)] → zE D tc lo ad zshC znnC fr w s.heap H locs → W p l e { frames := 3, cells := 0, slots := 0, locals := 66 } s m args below meth c H locs 0 0 (zZi D tc lo ad zshC znnC fr below args s r w_) (F0 m 72 ls []) := by
    intro n72
    induction n72 with
    | zero => intro l1 l2 l3 l4 l5 w ls H locs h hl hE; rw [fX7_fits_72] at h; cases h
    | succ n72 ih72 =>
      intro l1 l2 l3 l4 l5 w ls H locs h hl hE
      rw [fX7_fits_72] at h
      refine lv_iload hx hb dX7_fits_72 (lv_at hl 5 rfl) ?_
      refine lv_aload_n hx hb dX7_fits_74 rfl (lv_at hl 0 rfl) ?_
      refine zr_getA S hK hE zcl_X7 (zc_0 w) 0 (Nat.le_of_ble_eq_true rfl) (q := 1) rfl qf_X7_10 dX7_fits_75 ?_
      obtain ⟨x53, ex53, h⟩ := zbdE h
      refine zr_getI S hK hE zcl_X6 (zcW0 zW1 w) 9 (Nat.le_of_ble_eq_true rfl) rfl qf_X7_69 dX7_fits_78 ex53 ?_
      refine lv_icmp_ge (tgt := 125) hx hb dX7_fits_81 (by decide) (fun c54 => ?_) (fun c54 => ?_)
      · have h := zif c54 h
        refine lv_iload_n hx hb dX7_fits_125 rfl (lv_at hl 2 rfl) ?_
        refine lv_if_ne (tgt := 133) hx hb dX7_fits_126 (by decide) (fun c55 => ?_) (fun c55 => ?_)
        · have h := zif' c55 h
          refine lv_iload hx hb dX7_fits_133 (lv_at hl 4 rfl) ?_
          exact zr_iret S hE hr hlk h dX7_fits_135
        · have h := zif c55 h
          refine lv_iload_n hx hb dX7_fits_129 rfl (lv_at hl 3 rfl) ?_
          refine lv_goto (tgt := 135) hx hb dX7_fits_130 (by decide) ?_
          exact zr_iret S hE hr hlk h dX7_fits_135
      · have h := zif' c54 h
        refine lv_aload_n hx hb dX7_fits_84 rfl (lv_at hl 0 rfl) ?_
        refine zr_getA S hK hE zcl_X7 (zc_0 w) 5 (Nat.le_of_ble_eq_true rfl) (q := 39) rfl qf_X7_38 dX7_fits_85 ?_
        refine lv_iload_n hx hb dX7_fits_88 rfl (lv_at hl 1 rfl) ?_
        obtain ⟨q56, eq56, h⟩ := zbdE h
        refine zr_aald4 S hK hE (zc_39 w) dX7_fits_89 eq56 ?_
        refine lv_aload_n hx hb dX7_fits_90 rfl (lv_at hl 0 rfl) ?_
        refine zr_getA S hK hE zcl_X7 (zc_0 w) 0 (Nat.le_of_ble_eq_true rfl) (q := 1) rfl qf_X7_10 dX7_fits_91 ?_
        refine zr_getA S hK hE zcl_X6 (zcW0 zW1 w) 5 (Nat.le_of_ble_eq_true rfl) (q := 1 + 6) rfl qf_X7_100 dX7_fits_94 ?_
        refine lv_iload hx hb dX7_fits_97 (lv_at hl 5 rfl) ?_
        obtain ⟨x57, ex57, h⟩ := zbdE h
        refine zr_lald S hK hE (zcW6 zW1 w) dX7_fits_99 ex57 ?_
        obtain ⟨x58, w59, ew59, h⟩ := zbd2E h
        refine zr_i (zr_runV (As := [.long x57]) S hX hE (kX2_placesOn l D tc lo ad fr zq q56 x57 w x58 w59 ew59) zyX2_placesOn qm_X7_238 zcl_X2 rfl (zcS0 (zq4_S eq56) w) ⟨rfl, rfl⟩ ⟨Nat.le_of_ble_eq_true rfl, Nat.le_of_ble_eq_true rfl⟩ rfl hl.1 rfl (Nat.le_of_ble_eq_true rfl) dX7_fits_100 ⟨Nat.zero_le _, Nat.zero_le _⟩) hE (fun H locs hE => ?_)
        refine lv_istore (lv' := [(6, .int x58), (0, .ref (ad 0)), (1, .int l1), (2, .int l2), (3, .int l3), (4, .int l4), (5, .int l5)]) hx hb dX7_fits_103 hl (by decide) rfl (fun ls hl => ?_)
        refine lv_iload hx hb dX7_fits_105 (lv_at hl 0 rfl) ?_
        refine lv_iload hx hb dX7_fits_107 (lv_at hl 5 rfl) ?_
        refine lv_icmp_le (tgt := 119) hx hb dX7_fits_109 (by decide) (fun c60 => ?_) (fun c60 => ?_)
        · have h := zif c60 h
          obtain ⟨x61, ex61, h⟩ := zbdE h
          refine lv_iinc (v := x61) (lv' := [(5, .int x61), (6, .int x58), (0, .ref (ad 0)), (1, .int l1), (2, .int l2), (3, .int l3), (4, .int l4)]) hx hb dX7_fits_119 hl (k := 6) rfl (zinc (k := 1) (by decide) ex61) (by decide) rfl (fun ls hl => ?_)
          refine lv_goto (tgt := 72) hx hb dX7_fits_122 (by decide) ?_
          exact ih72 l1 l2 l3 l4 x61 w59 ls _ _ h (lv_sub hl [2, 3, 4, 5, 6, 0] rfl) hE
        · have h := zif' c60 h
          refine lv_iload hx hb dX7_fits_112 (lv_at hl 6 rfl) ?_
          refine lv_istore_n (lv' := [(3, .int l5), (6, .int x58), (0, .ref (ad 0)), (1, .int l1), (2, .int l2), (4, .int l4), (5, .int l5)]) hx hb dX7_fits_114 rfl hl (by decide) rfl (fun ls hl => ?_)
          refine lv_iload hx hb dX7_fits_115 (lv_at hl 1 rfl) ?_
          refine lv_istore (lv' := [(4, .int x58), (3, .int l5), (6, .int x58), (0, .ref (ad 0)), (1, .int l1), (2, .int l2), (5, .int l5)]) hx hb dX7_fits_117 hl (by decide) rfl (fun ls hl => ?_)
          obtain ⟨x62, ex62, h⟩ := zbdE h
          refine lv_iinc (v := x62) (lv' := [(5, .int x62), (4, .int x58), (3, .int l5), (6, .int x58), (0, .ref (ad 0)), (1, .int l1), (2, .int l2)]) hx hb dX7_fits_119 hl (k := 6) rfl (zinc (k := 1) (by decide) ex62) (by decide) rfl (fun ls hl => ?_)
          refine lv_goto (tgt := 72) hx hb dX7_fits_122 (by decide) ?_
          exact ih72 l1 l2 l5 x58 x62 w59 ls _ _ h (lv_sub hl [4, 5, 6, 2, 1, 0] rfl) hE
  refine lv_iload_n hx hb dX7_fits_0 rfl (lv_at hl 1 rfl) ?_
  obtain ⟨x10001, w10002, ew10002, h⟩ := zbd2E h
  refine zr_i (zr_runS (As := [.int a1]) S hX hE (kX7_isSheet l D tc lo ad fr zq a1 w x10001 w10002 ew10002) zyX7_isSheet qm_X7_203 ⟨rfl, rfl⟩ ⟨Nat.le_of_ble_eq_true rfl, Nat.le_of_ble_eq_true rfl⟩ rfl hl.1 rfl (Nat.le_of_ble_eq_true rfl) dX7_fits_1 ⟨Nat.zero_le _, Nat.zero_le _⟩) hE (fun H locs hE => ?_)
  refine lv_if_eq (tgt := 16) hx hb dX7_fits_4 (by decide) (fun c10003 => ?_) (fun c10003 => ?_)
  · have h := zif c10003 h
    refine zr_ldc S qc_X7_68 dX7_fits_16 ?_
    exact zr_iret S hE hr hlk h dX7_fits_18
  · have h := zif' c10003 h
    refine lv_iload_n hx hb dX7_fits_7 rfl (lv_at hl 2 rfl) ?_
    refine lv_iconst (v := 0) hx hb dX7_fits_8 (by decide) ?_
    refine lv_iconst (v := 1) hx hb dX7_fits_9 (by decide) ?_
    obtain ⟨x10004, w10005, ew10005, h⟩ := zbd2E h
    refine zr_i (zr_runS (As := [.int a2, .int 0, .int 1]) S hX hE (kX7_within l D tc lo ad fr zq a2 0 1 w10002 x10004 w10005 ew10005) zyX7_within qm_X7_61 ⟨rfl, rfl⟩ ⟨Nat.le_of_ble_eq_true rfl, Nat.le_of_ble_eq_true rfl⟩ rfl hl.1 rfl (Nat.le_of_ble_eq_true rfl) dX7_fits_10 ⟨Nat.zero_le _, Nat.zero_le _⟩) hE (fun H locs hE => ?_)
    refine lv_if_ne (tgt := 19) hx hb dX7_fits_13 (by decide) (fun c10006 => ?_) (fun c10006 => ?_)
    · have h := zif' c10006 h
      refine lv_aload_n hx hb dX7_fits_19 rfl (lv_at hl 0 rfl) ?_
      refine zr_getA S hK hE zcl_X7 (zc_0 w10005) 5 (Nat.le_of_ble_eq_true rfl) (q := 39) rfl qf_X7_38 dX7_fits_20 ?_
      refine lv_iload_n hx hb dX7_fits_23 rfl (lv_at hl 1 rfl) ?_
      obtain ⟨q10007, eq10007, h⟩ := zbdE h
      refine zr_aald4 S hK hE (zc_39 w10005) dX7_fits_24 eq10007 ?_
      obtain ⟨x10008, w10009, ew10009, h⟩ := zbd2E h
      refine zr_i (zr_runV (As := []) S hX hE (kX2_isMissing l D tc lo ad fr zq q10007 w10005 x10008 w10009 ew10009) zyX2_isMissing qm_X7_234 zcl_X2 rfl (zcS0 (zq4_S eq10007) w10005) ⟨rfl, rfl⟩ ⟨Nat.le_of_ble_eq_true rfl, Nat.le_of_ble_eq_true rfl⟩ rfl hl.1 rfl (Nat.le_of_ble_eq_true rfl) dX7_fits_25 ⟨Nat.zero_le _, Nat.zero_le _⟩) hE (fun H locs hE => ?_)
      refine lv_if_eq (tgt := 34) hx hb dX7_fits_28 (by decide) (fun c10010 => ?_) (fun c10010 => ?_)
      · have h := zif c10010 h
        refine lv_aload_n hx hb dX7_fits_34 rfl (lv_at hl 0 rfl) ?_
        refine zr_getA S hK hE zcl_X7 (zc_0 w10009) 0 (Nat.le_of_ble_eq_true rfl) (q := 1) rfl qf_X7_10 dX7_fits_35 ?_
        obtain ⟨x10011, ex10011, h⟩ := zbdE h
        refine zr_getI S hK hE zcl_X6 (zcW0 zW1 w10009) 9 (Nat.le_of_ble_eq_true rfl) rfl qf_X7_69 dX7_fits_38 ex10011 ?_
        refine lv_if_ne (tgt := 47) hx hb dX7_fits_41 (by decide) (fun c10012 => ?_) (fun c10012 => ?_)
        · have h := zif' c10012 h
          refine lv_iconst (v := 0) hx hb dX7_fits_47 (by decide) ?_
          refine lv_istore_n (lv' := [(3, .int 0), (0, .ref (ad 0)), (1, .int a1), (2, .int a2)]) hx hb dX7_fits_48 rfl hl (by decide) rfl (fun ls hl => ?_)
          refine lv_aload_n hx hb dX7_fits_49 rfl (lv_at hl 1 rfl) ?_
          refine zr_getA S hK hE zcl_X7 (zc_0 w10009) 5 (Nat.le_of_ble_eq_true rfl) (q := 39) rfl qf_X7_38 dX7_fits_50 ?_
          refine lv_iload_n hx hb dX7_fits_53 rfl (lv_at hl 2 rfl) ?_
          obtain ⟨q10013, eq10013, h⟩ := zbdE h
          refine zr_aald4 S hK hE (zc_39 w10009) dX7_fits_54 eq10013 ?_
          refine lv_aload_n hx hb dX7_fits_55 rfl (lv_at hl 1 rfl) ?_
          refine zr_getA S hK hE zcl_X7 (zc_0 w10009) 0 (Nat.le_of_ble_eq_true rfl) (q := 1) rfl qf_X7_10 dX7_fits_56 ?_
          refine zr_getA S hK hE zcl_X6 (zcW0 zW1 w10009) 5 (Nat.le_of_ble_eq_true rfl) (q := 1 + 6) rfl qf_X7_100 dX7_fits_59 ?_
          refine lv_iconst (v := 0) hx hb dX7_fits_62 (by decide) ?_
          obtain ⟨x10014, ex10014, h⟩ := zbdE h
          refine zr_lald S hK hE (zcW6 zW1 w10009) dX7_fits_63 ex10014 ?_
          obtain ⟨x10015, w10016, ew10016, h⟩ := zbd2E h
          refine zr_i (zr_runV (As := [.long x10014]) S hX hE (kX2_placesOn l D tc lo ad fr zq q10013 x10014 w10009 x10015 w10016 ew10016) zyX2_placesOn qm_X7_238 zcl_X2 rfl (zcS0 (zq4_S eq10013) w10009) ⟨rfl, rfl⟩ ⟨Nat.le_of_ble_eq_true rfl, Nat.le_of_ble_eq_true rfl⟩ rfl hl.1 rfl (Nat.le_of_ble_eq_true rfl) dX7_fits_64 ⟨Nat.zero_le _, Nat.zero_le _⟩) hE (fun H locs hE => ?_)
          refine lv_istore (lv' := [(4, .int x10015), (3, .int 0), (0, .ref (ad 0)), (1, .int a1), (2, .int a2)]) hx hb dX7_fits_67 hl (by decide) rfl (fun ls hl => ?_)
          refine lv_iconst (v := 1) hx hb dX7_fits_69 (by decide) ?_
          refine lv_istore (lv' := [(5, .int 1), (4, .int x10015), (3, .int 0), (0, .ref (ad 0)), (1, .int a1), (2, .int a2)]) hx hb dX7_fits_70 hl (by decide) rfl (fun ls hl => ?_)
          exact L72 zfuel a1 a2 0 x10015 1 w10016 ls _ _ h (lv_sub hl [3, 4, 5, 2, 1, 0] rfl) hE
        · have h := zif c10012 h
          refine zr_ldc S qc_X7_184 dX7_fits_44 ?_
          exact zr_iret S hE hr hlk h dX7_fits_46
      · have h := zif' c10010 h
        refine zr_ldc S qc_X7_237 dX7_fits_31 ?_
        exact zr_iret S hE hr hlk h dX7_fits_33
    · have h := zif c10006 h
      refine zr_ldc S qc_X7_68 dX7_fits_16 ?_
      exact zr_iret S hE hr hlk h dX7_fits_18
set_option maxHeartbeats 4000000 in
set_option maxRecDepth 100000 in
theorem kX7_house (l : Launch) (D : va_G) (tc : Nat → ClassId) (lo : Nat) (ad : Nat → Nat) (fr : va_W) (zq : zz_Q) (a1 : Int32) (w : zz_W) (r : Int32) (w_ : zz_W) (h : fX7_house a1 w = some (r, w_)) : zMi l yX7_house cX7_house 2 (some .int) { frames := 4, cells := 0, slots := 0, locals := 83 } D tc lo ad zshC znnC fr zq [.ref (ad 0), .int a1] w r w_ := by
  refine zr_entry (by decide) (Nat.le_of_ble_eq_true rfl) fun p e s m args below meth c ls S hX hr hlk hE hl => ?_
  have S : CallFix p m c cX7_house 2 s args (Cond.code yX7_house cX7_house 2 (some .int) :: zw_tb) RX7 := S
  have hx := S.1
  have hb := S.2.1
  have hK := hX.2.1
  have hl : lv_has ls 2 [(0, .ref (ad 0)), (1, .int a1)] := hl
  unfold fX7_house at h
  refine lv_iload_n hx hb dX7_house_0 rfl (lv_at hl 1 rfl) ?_
  refine lv_iconst (v := 0) hx hb dX7_house_1 (by decide) ?_
  refine lv_bipush (v := 6) hx hb dX7_house_2 (by decide) ?_
  obtain ⟨x10001, w10002, ew10002, h⟩ := zbd2E h
  refine zr_i (zr_runS (As := [.int a1, .int 0, .int 6]) S hX hE (kX7_within l D tc lo ad fr zq a1 0 6 w x10001 w10002 ew10002) zyX7_within qm_X7_61 ⟨rfl, rfl⟩ ⟨Nat.le_of_ble_eq_true rfl, Nat.le_of_ble_eq_true rfl⟩ rfl hl.1 rfl (Nat.le_of_ble_eq_true rfl) dX7_house_4 ⟨Nat.zero_le _, Nat.zero_le _⟩) hE (fun H locs hE => ?_)
  refine lv_if_eq (tgt := 20) hx hb dX7_house_7 (by decide) (fun c10003 => ?_) (fun c10003 => ?_)
  · have h := zif c10003 h
    refine lv_iload_n hx hb dX7_house_20 rfl (lv_at hl 1 rfl) ?_
    by_cases c10007 : a1 = 7
    · refine lv_tableIn (off := 27) (tgt := 48) hx hb dX7_house_21 (by rw [c10007]; decide) (by rw [c10007]; decide) (by rw [c10007]; decide) (by decide) ?_
      have h := zif c10007 h
      refine lv_aload_n hx hb dX7_house_48 rfl (lv_at hl 0 rfl) ?_
      refine zr_getA S hK hE zcl_X7 (zc_0 w10002) 0 (Nat.le_of_ble_eq_true rfl) (q := 1) rfl qf_X7_10 dX7_house_49 ?_
      obtain ⟨x10004, w10005, ew10005, h⟩ := zbd2E h
      refine zr_i (zr_runV (As := []) S hX hE (kX6_isBuilt l D tc lo ad fr zq 1 w10002 x10004 w10005 ew10005) zyX6_isBuilt qm_X7_164 zcl_X6 rfl (zcW0 zW1 w10002) ⟨rfl, rfl⟩ ⟨Nat.le_of_ble_eq_true rfl, Nat.le_of_ble_eq_true rfl⟩ rfl hl.1 rfl (Nat.le_of_ble_eq_true rfl) dX7_house_52 ⟨Nat.zero_le _, Nat.zero_le _⟩) hE (fun H locs hE => ?_)
      refine lv_if_eq (tgt := 62) hx hb dX7_house_55 (by decide) (fun c10006 => ?_) (fun c10006 => ?_)
      · have h := zif c10006 h
        refine lv_iconst (v := 0) hx hb dX7_house_62 (by decide) ?_
        exact zr_iret S hE hr hlk h dX7_house_63
      · have h := zif' c10006 h
        refine lv_iconst (v := 1) hx hb dX7_house_58 (by decide) ?_
        refine lv_goto (tgt := 63) hx hb dX7_house_59 (by decide) ?_
        exact zr_iret S hE hr hlk h dX7_house_63
    have h := zif' c10007 h
    by_cases c10012 : a1 = 8
    · refine lv_tableIn (off := 43) (tgt := 64) hx hb dX7_house_21 (by rw [c10012]; decide) (by rw [c10012]; decide) (by rw [c10012]; decide) (by decide) ?_
      have h := zif c10012 h
      refine lv_aload_n hx hb dX7_house_64 rfl (lv_at hl 0 rfl) ?_
      refine zr_getA S hK hE zcl_X7 (zc_0 w10002) 0 (Nat.le_of_ble_eq_true rfl) (q := 1) rfl qf_X7_10 dX7_house_65 ?_
      obtain ⟨x10008, ex10008, h⟩ := zbdE h
      refine zr_getI S hK hE zcl_X6 (zcW0 zW1 w10002) 9 (Nat.le_of_ble_eq_true rfl) rfl qf_X7_69 dX7_house_68 ex10008 ?_
      refine lv_if_ne (tgt := 79) hx hb dX7_house_71 (by decide) (fun c10009 => ?_) (fun c10009 => ?_)
      · have h := zif' c10009 h
        refine lv_aload_n hx hb dX7_house_79 rfl (lv_at hl 0 rfl) ?_
        refine zr_getA S hK hE zcl_X7 (zc_0 w10002) 0 (Nat.le_of_ble_eq_true rfl) (q := 1) rfl qf_X7_10 dX7_house_80 ?_
        obtain ⟨x10010, w10011, ew10011, h⟩ := zbd2E h
        refine zr_i (zr_runV (As := []) S hX hE (kX6_likeliest l D tc lo ad fr zq 1 w10002 x10010 w10011 ew10011) zyX6_likeliest qm_X7_185 zcl_X6 rfl (zcW0 zW1 w10002) ⟨rfl, rfl⟩ ⟨Nat.le_of_ble_eq_true rfl, Nat.le_of_ble_eq_true rfl⟩ rfl hl.1 rfl (Nat.le_of_ble_eq_true rfl) dX7_house_83 ⟨Nat.zero_le _, Nat.zero_le _⟩) hE (fun H locs hE => ?_)
        exact zr_iret S hE hr hlk h dX7_house_86
      · have h := zif c10009 h
        refine zr_ldc S qc_X7_184 dX7_house_74 ?_
        refine lv_goto (tgt := 86) hx hb dX7_house_76 (by decide) ?_
        exact zr_iret S hE hr hlk h dX7_house_86
    have h := zif' c10012 h
    by_cases c10016 : a1 = 9
    · refine lv_tableIn (off := 66) (tgt := 87) hx hb dX7_house_21 (by rw [c10016]; decide) (by rw [c10016]; decide) (by rw [c10016]; decide) (by decide) ?_
      have h := zif c10016 h
      refine lv_aload_n hx hb dX7_house_87 rfl (lv_at hl 0 rfl) ?_
      refine zr_getA S hK hE zcl_X7 (zc_0 w10002) 0 (Nat.le_of_ble_eq_true rfl) (q := 1) rfl qf_X7_10 dX7_house_88 ?_
      obtain ⟨x10013, w10014, ew10014, h⟩ := zbd2E h
      refine zr_i (zr_runV (As := []) S hX hE (kX6_isKnown l D tc lo ad fr zq 1 w10002 x10013 w10014 ew10014) zyX6_isKnown qm_X7_189 zcl_X6 rfl (zcW0 zW1 w10002) ⟨rfl, rfl⟩ ⟨Nat.le_of_ble_eq_true rfl, Nat.le_of_ble_eq_true rfl⟩ rfl hl.1 rfl (Nat.le_of_ble_eq_true rfl) dX7_house_91 ⟨Nat.zero_le _, Nat.zero_le _⟩) hE (fun H locs hE => ?_)
      refine lv_if_eq (tgt := 101) hx hb dX7_house_94 (by decide) (fun c10015 => ?_) (fun c10015 => ?_)
      · have h := zif c10015 h
        refine lv_iconst (v := 0) hx hb dX7_house_101 (by decide) ?_
        exact zr_iret S hE hr hlk h dX7_house_102
      · have h := zif' c10015 h
        refine lv_iconst (v := 1) hx hb dX7_house_97 (by decide) ?_
        refine lv_goto (tgt := 102) hx hb dX7_house_98 (by decide) ?_
        exact zr_iret S hE hr hlk h dX7_house_102
    have h := zif' c10016 h
    refine lv_tableOut (tgt := 103) hx hb dX7_house_21 (by have tc10007 := lv_neT c10007 (a := 7) (by decide); have tc10012 := lv_neT c10012 (a := 8) (by decide); have tc10016 := lv_neT c10016 (a := 9) (by decide); omega) (by decide) ?_
    refine zr_ldc S qc_X7_68 dX7_house_103 ?_
    exact zr_iret S hE hr hlk h dX7_house_105
  · have h := zif' c10003 h
    refine lv_aload_n hx hb dX7_house_10 rfl (lv_at hl 0 rfl) ?_
    refine zr_getA S hK hE zcl_X7 (zc_0 w10002) 0 (Nat.le_of_ble_eq_true rfl) (q := 1) rfl qf_X7_10 dX7_house_11 ?_
    refine zr_getA S hK hE zcl_X6 (zcW0 zW1 w10002) 6 (Nat.le_of_ble_eq_true rfl) (q := 1 + 7) rfl qf_X7_174 dX7_house_14 ?_
    refine lv_iload_n hx hb dX7_house_17 rfl (lv_at hl 1 rfl) ?_
    obtain ⟨x10017, ex10017, h⟩ := zbdE h
    refine zr_iald S hK hE (zcW7 zW1 w10002) dX7_house_18 ex10017 ?_
    exact zr_iret S hE hr hlk h dX7_house_19
set_option maxHeartbeats 4000000 in
set_option maxRecDepth 100000 in
theorem kX7_isSort (l : Launch) (D : va_G) (tc : Nat → ClassId) (lo : Nat) (ad : Nat → Nat) (fr : va_W) (zq : zz_Q) (a1 : Int32) (w : zz_W) (r : Int32) (w_ : zz_W) (h : fX7_isSort a1 w = some (r, w_)) : zMi l yX7_isSort cX7_isSort 1 (some .boolean) { frames := 1, cells := 0, slots := 0, locals := 22 } D tc lo ad zshC znnC fr zq [.int a1] w r w_ := by
  refine zr_entry (by decide) (Nat.le_of_ble_eq_true rfl) fun p e s m args below meth c ls S hX hr hlk hE hl => ?_
  have S : CallFix p m c cX7_isSort 1 s args (Cond.code yX7_isSort cX7_isSort 1 (some .boolean) :: zw_tb) RX7 := S
  have hx := S.1
  have hb := S.2.1
  have hK := hX.2.1
  have hl : lv_has ls 1 [(0, .int a1)] := hl
  unfold fX7_isSort at h
  refine lv_iload_n hx hb dX7_isSort_0 rfl (lv_at hl 0 rfl) ?_
  refine lv_iconst (v := 0) hx hb dX7_isSort_1 (by decide) ?_
  refine lv_iconst (v := 3) hx hb dX7_isSort_2 (by decide) ?_
  obtain ⟨x10001, w10002, ew10002, h⟩ := zbd2E h
  refine zr_i (zr_runS (As := [.int a1, .int 0, .int 3]) S hX hE (kX7_within l D tc lo ad fr zq a1 0 3 w x10001 w10002 ew10002) zyX7_within qm_X7_61 ⟨rfl, rfl⟩ ⟨Nat.le_of_ble_eq_true rfl, Nat.le_of_ble_eq_true rfl⟩ rfl hl.1 rfl (Nat.le_of_ble_eq_true rfl) dX7_isSort_3 ⟨Nat.zero_le _, Nat.zero_le _⟩) hE (fun H locs hE => ?_)
  obtain ⟨x10003, ex10003, h⟩ := zbdE h
  obtain ⟨ezx10003, enx10003⟩ := zboo_in ex10003
  refine zr_topi (congrArg some ezx10003) ?_
  exact zr_zret S hE hr hlk enx10003 h dX7_isSort_6
set_option maxHeartbeats 4000000 in
set_option maxRecDepth 100000 in
theorem kX7_item (l : Launch) (D : va_G) (tc : Nat → ClassId) (lo : Nat) (ad : Nat → Nat) (fr : va_W) (zq : zz_Q) (a1 : Int32) (a2 : Int32) (w : zz_W) (r : Int32) (w_ : zz_W) (h : fX7_item a1 a2 w = some (r, w_)) : zMi l yX7_item cX7_item 4 (some .int) { frames := 2, cells := 0, slots := 0, locals := 43 } D tc lo ad zshC znnC fr zq [.ref (ad 0), .int a1, .int a2] w r w_ := by
  refine zr_entry (by decide) (Nat.le_of_ble_eq_true rfl) fun p e s m args below meth c ls S hX hr hlk hE hl => ?_
  have S : CallFix p m c cX7_item 4 s args (Cond.code yX7_item cX7_item 4 (some .int) :: zw_tb) RX7 := S
  have hx := S.1
  have hb := S.2.1
  have hK := hX.2.1
  have hl : lv_has ls 4 [(0, .ref (ad 0)), (1, .int a1), (2, .int a2)] := hl
  unfold fX7_item at h
  refine lv_iload_n hx hb dX7_item_0 rfl (lv_at hl 1 rfl) ?_
  obtain ⟨x10001, w10002, ew10002, h⟩ := zbd2E h
  refine zr_i (zr_runS (As := [.int a1]) S hX hE (kX7_isSlot l D tc lo ad fr zq a1 w x10001 w10002 ew10002) zyX7_isSlot qm_X7_323 ⟨rfl, rfl⟩ ⟨Nat.le_of_ble_eq_true rfl, Nat.le_of_ble_eq_true rfl⟩ rfl hl.1 rfl (Nat.le_of_ble_eq_true rfl) dX7_item_1 ⟨Nat.zero_le _, Nat.zero_le _⟩) hE (fun H locs hE => ?_)
  refine lv_if_ne (tgt := 10) hx hb dX7_item_4 (by decide) (fun c10003 => ?_) (fun c10003 => ?_)
  · have h := zif' c10003 h
    refine lv_aload_n hx hb dX7_item_10 rfl (lv_at hl 0 rfl) ?_
    refine zr_getA S hK hE zcl_X7 (zc_0 w10002) 6 (Nat.le_of_ble_eq_true rfl) (q := 40) rfl qf_X7_44 dX7_item_11 ?_
    refine lv_iload_n hx hb dX7_item_14 rfl (lv_at hl 1 rfl) ?_
    obtain ⟨q10004, eq10004, h⟩ := zbdE h
    refine zr_aald5 S hK hE (zc_40 w10002) dX7_item_15 eq10004 ?_
    refine lv_astore_n (lv' := [(3, .ref (ad q10004)), (0, .ref (ad 0)), (1, .int a1), (2, .int a2)]) hx hb dX7_item_16 rfl hl (by decide) rfl (fun ls hl => ?_)
    refine lv_aload_n hx hb dX7_item_17 rfl (lv_at hl 0 rfl) ?_
    obtain ⟨x10005, ex10005, h⟩ := zbdE h
    refine zr_getI S hK hE zcl_X3 (zcL0 (zq5_L eq10004) w10002) 1 (Nat.le_of_ble_eq_true rfl) rfl qf_X7_326 dX7_item_18 ex10005 ?_
    refine lv_if_ne (tgt := 27) hx hb dX7_item_21 (by decide) (fun c10006 => ?_) (fun c10006 => ?_)
    · have h := zif' c10006 h
      refine lv_aload_n hx hb dX7_item_27 rfl (lv_at hl 0 rfl) ?_
      obtain ⟨x10007, ex10007, h⟩ := zbdE h
      refine zr_getI S hK hE zcl_X3 (zcL0 (zq5_L eq10004) w10002) 1 (Nat.le_of_ble_eq_true rfl) rfl qf_X7_326 dX7_item_28 ex10007 ?_
      refine lv_iconst (v := 2) hx hb dX7_item_31 (by decide) ?_
      refine lv_icmp_eq (tgt := 38) hx hb dX7_item_32 (by decide) (fun c10008 => ?_) (fun c10008 => ?_)
      · have h := zif c10008 h
        refine lv_aload_n hx hb dX7_item_38 rfl (lv_at hl 0 rfl) ?_
        refine zr_getA S hK hE zcl_X3 (zcL0 (zq5_L eq10004) w10002) 0 (Nat.le_of_ble_eq_true rfl) (q := q10004 + 1) rfl qf_X7_334 dX7_item_39 ?_
        refine lv_iload_n hx hb dX7_item_42 rfl (lv_at hl 3 rfl) ?_
        obtain ⟨x10009, w10010, ew10010, h⟩ := zbd2E h
        refine zr_i (zr_runV (As := [.int a2]) S hX hE (kX2_hasPlace l D tc lo ad fr zq (q10004 + 1) a2 w10002 x10009 w10010 ew10010) zyX2_hasPlace qm_X7_294 zcl_X2 rfl (zcS0 (zcL1 (zq5_L eq10004)) w10002) ⟨rfl, rfl⟩ ⟨Nat.le_of_ble_eq_true rfl, Nat.le_of_ble_eq_true rfl⟩ rfl hl.1 rfl (Nat.le_of_ble_eq_true rfl) dX7_item_43 ⟨Nat.zero_le _, Nat.zero_le _⟩) hE (fun H locs hE => ?_)
        refine lv_if_ne (tgt := 53) hx hb dX7_item_46 (by decide) (fun c10011 => ?_) (fun c10011 => ?_)
        · have h := zif' c10011 h
          refine lv_aload_n hx hb dX7_item_53 rfl (lv_at hl 0 rfl) ?_
          refine zr_getA S hK hE zcl_X3 (zcL0 (zq5_L eq10004) w10010) 0 (Nat.le_of_ble_eq_true rfl) (q := q10004 + 1) rfl qf_X7_334 dX7_item_54 ?_
          refine lv_iload_n hx hb dX7_item_57 rfl (lv_at hl 3 rfl) ?_
          obtain ⟨x10012, w10013, ew10013, h⟩ := zbd2E h
          refine zr_i (zr_runV (As := [.int a2]) S hX hE (kX2_isNumber l D tc lo ad fr zq (q10004 + 1) a2 w10010 x10012 w10013 ew10013) zyX2_isNumber qm_X7_308 zcl_X2 rfl (zcS0 (zcL1 (zq5_L eq10004)) w10010) ⟨rfl, rfl⟩ ⟨Nat.le_of_ble_eq_true rfl, Nat.le_of_ble_eq_true rfl⟩ rfl hl.1 rfl (Nat.le_of_ble_eq_true rfl) dX7_item_58 ⟨Nat.zero_le _, Nat.zero_le _⟩) hE (fun H locs hE => ?_)
          refine lv_if_eq (tgt := 76) hx hb dX7_item_61 (by decide) (fun c10014 => ?_) (fun c10014 => ?_)
          · have h := zif c10014 h
            refine zr_ldc S qc_X7_120 dX7_item_76 ?_
            exact zr_iret S hE hr hlk h dX7_item_78
          · have h := zif' c10014 h
            refine lv_aload_n hx hb dX7_item_64 rfl (lv_at hl 0 rfl) ?_
            refine zr_getA S hK hE zcl_X3 (zcL0 (zq5_L eq10004) w10013) 0 (Nat.le_of_ble_eq_true rfl) (q := q10004 + 1) rfl qf_X7_334 dX7_item_65 ?_
            refine zr_getA S hK hE zcl_X2 (zcS0 (zcL1 (zq5_L eq10004)) w10013) 0 (Nat.le_of_ble_eq_true rfl) (q := (q10004 + 1) + 1) rfl qf_X7_301 dX7_item_68 ?_
            refine lv_iload_n hx hb dX7_item_71 rfl (lv_at hl 3 rfl) ?_
            obtain ⟨x10015, ex10015, h⟩ := zbdE h
            refine zr_iald S hK hE (zcS1 (zcL1 (zq5_L eq10004)) w10013) dX7_item_72 ex10015 ?_
            refine lv_goto (tgt := 78) hx hb dX7_item_73 (by decide) ?_
            exact zr_iret S hE hr hlk h dX7_item_78
        · have h := zif c10011 h
          refine zr_ldcw S qc_X7_297 dX7_item_49 ?_
          exact zr_iret S hE hr hlk h dX7_item_52
      · have h := zif' c10008 h
        refine zr_ldc S qc_X7_120 dX7_item_35 ?_
        exact zr_iret S hE hr hlk h dX7_item_37
    · have h := zif c10006 h
      refine zr_ldc S qc_X7_237 dX7_item_24 ?_
      exact zr_iret S hE hr hlk h dX7_item_26
  · have h := zif c10003 h
    refine zr_ldc S qc_X7_68 dX7_item_7 ?_
    exact zr_iret S hE hr hlk h dX7_item_9
set_option maxHeartbeats 4000000 in
set_option maxRecDepth 100000 in
theorem kX7_keep (l : Launch) (D : va_G) (tc : Nat → ClassId) (lo : Nat) (ad : Nat → Nat) (fr : va_W) (zq : zz_Q) (w : zz_W) (r : Int32) (w_ : zz_W) (h : fX7_keep w = some (r, w_)) : zMi l yX7_keep cX7_keep 1 (some .int) { frames := 2, cells := 0, slots := 0, locals := 48 } D tc lo ad zshC znnC fr zq [.ref (ad 0)] w r w_ := by
  refine zr_entry (by decide) (Nat.le_of_ble_eq_true rfl) fun p e s m args below meth c ls S hX hr hlk hE hl => ?_
  have S : CallFix p m c cX7_keep 1 s args (Cond.code yX7_keep cX7_keep 1 (some .int) :: zw_tb) RX7 := S
  have hx := S.1
  have hb := S.2.1
  have hK := hX.2.1
  have hl : lv_has ls 1 [(0, .ref (ad 0))] := hl
  unfold fX7_keep at h
  refine lv_aload_n hx hb dX7_keep_0 rfl (lv_at hl 0 rfl) ?_
  refine zr_getA S hK hE zcl_X7 (zc_0 w) 1 (Nat.le_of_ble_eq_true rfl) (q := 11) rfl qf_X7_16 dX7_keep_1 ?_
  refine lv_aload_n hx hb dX7_keep_4 rfl (lv_at hl 0 rfl) ?_
  refine zr_getA S hK hE zcl_X7 (zc_0 w) 0 (Nat.le_of_ble_eq_true rfl) (q := 1) rfl qf_X7_10 dX7_keep_5 ?_
  obtain ⟨w10001, ew10001, h⟩ := zbdE h
  refine zr_v (zr_runV (As := [.ref (ad 1)]) S hX hE (kX6_takeFrom l D tc lo ad fr zq 11 1 w w10001 ew10001) zyX6_takeFrom qm_X7_241 zcl_X6 rfl (zcW0 zW11 w) ⟨rfl, rfl⟩ ⟨Nat.le_of_ble_eq_true rfl, Nat.le_of_ble_eq_true rfl⟩ rfl hl.1 rfl (Nat.le_of_ble_eq_true rfl) dX7_keep_8 ⟨Nat.zero_le _, Nat.zero_le _⟩) hE (fun H locs hE => ?_)
  refine lv_aload_n hx hb dX7_keep_11 rfl (lv_at hl 0 rfl) ?_
  refine lv_iconst (v := 1) hx hb dX7_keep_12 (by decide) ?_
  obtain ⟨w10002, ew10002, h⟩ := zbdE h
  refine zr_putB S hK hE zcl_X7 (zc_0 w10001) 8 (Nat.le_of_ble_eq_true rfl) rfl (by decide) (by decide) rfl qf_X7_347 dX7_keep_13 ew10002 (fun H locs hE => ?_)
  refine lv_aload_n hx hb dX7_keep_16 rfl (lv_at hl 0 rfl) ?_
  refine zr_getA S hK hE zcl_X7 (zc_0 w10002) 0 (Nat.le_of_ble_eq_true rfl) (q := 1) rfl qf_X7_10 dX7_keep_17 ?_
  obtain ⟨x10003, ex10003, h⟩ := zbdE h
  refine zr_getI S hK hE zcl_X6 (zcW0 zW1 w10002) 9 (Nat.le_of_ble_eq_true rfl) rfl qf_X7_69 dX7_keep_20 ex10003 ?_
  exact zr_iret S hE hr hlk h dX7_keep_23
set_option maxHeartbeats 4000000 in
set_option maxRecDepth 100000 in
theorem kX7_lay (l : Launch) (D : va_G) (tc : Nat → ClassId) (lo : Nat) (ad : Nat → Nat) (fr : va_W) (zq : zz_Q) (a1 : Int32) (a2 : Int32) (a3 : Int32) (w : zz_W) (r : Int32) (w_ : zz_W) (h : fX7_lay a1 a2 a3 w = some (r, w_)) : zMi l yX7_lay cX7_lay 6 (some .int) { frames := 2, cells := 0, slots := 0, locals := 47 } D tc lo ad zshC znnC fr zq [.ref (ad 0), .int a1, .int a2, .int a3] w r w_ := by
  refine zr_entry (by decide) (Nat.le_of_ble_eq_true rfl) fun p e s m args below meth c ls S hX hr hlk hE hl => ?_
  have S : CallFix p m c cX7_lay 6 s args (Cond.code yX7_lay cX7_lay 6 (some .int) :: zw_tb) RX7 := S
  have hx := S.1
  have hb := S.2.1
  have hK := hX.2.1
  have hl : lv_has ls 6 [(0, .ref (ad 0)), (1, .int a1), (2, .int a2), (3, .int a3)] := hl
  unfold fX7_lay at h
  have J70 : ∀ (l1 : Int32) (l2 : Int32) (l3 : Int32) (w : zz_W) (ls : Array Slot) (H : Heap) (locs : List Loc), fX7_lay_70 a1 a2 a3 l1 l2 l3 w = some (r, w_) → lv_has ls 6 [(0, .ref (ad 0)), (1, .int l1), (2, .int l2), (3, .int l3)] → zE D tc lo ad zshC znnC fr w s.heap H locs → W p l e { frames := 2, cells := 0, slots := 0, locals := 47 } s m args below meth c H locs 0 0 (zZi D tc lo ad zshC znnC fr below args s r w_) (F0 m 70 ls []) := by
    intro l1 l2 l3 w ls H locs h hl hE
    unfold fX7_lay_70 at h
    refine lv_aload_n hx hb dX7_lay_70 rfl (lv_at hl 0 rfl) ?_
    refine zr_getA S hK hE zcl_X7 (zc_0 w) 6 (Nat.le_of_ble_eq_true rfl) (q := 40) rfl qf_X7_44 dX7_lay_71 ?_
    refine lv_iload_n hx hb dX7_lay_74 rfl (lv_at hl 1 rfl) ?_
    obtain ⟨q63, eq63, h⟩ := zbdE h
    refine zr_aald5 S hK hE (zc_40 w) dX7_lay_75 eq63 ?_
    refine lv_astore (lv' := [(4, .ref (ad q63)), (0, .ref (ad 0)), (1, .int l1), (2, .int l2), (3, .int l3)]) hx hb dX7_lay_76 hl (by decide) rfl (fun ls hl => ?_)
    refine lv_aload hx hb dX7_lay_78 (lv_at hl 0 rfl) ?_
    obtain ⟨x64, ex64, h⟩ := zbdE h
    refine zr_getI S hK hE zcl_X3 (zcL0 (zq5_L eq63) w) 1 (Nat.le_of_ble_eq_true rfl) rfl qf_X7_326 dX7_lay_80 ex64 ?_
    refine lv_istore (lv' := [(5, .int x64), (4, .ref (ad q63)), (0, .ref (ad 0)), (1, .int l1), (2, .int l2), (3, .int l3)]) hx hb dX7_lay_83 hl (by decide) rfl (fun ls hl => ?_)
    refine lv_aload hx hb dX7_lay_85 (lv_at hl 1 rfl) ?_
    refine lv_iload_n hx hb dX7_lay_87 rfl (lv_at hl 4 rfl) ?_
    obtain ⟨w65, ew65, h⟩ := zbdE h
    refine zr_putI S hK hE zcl_X3 (zcL0 (zq5_L eq63) w) 1 (Nat.le_of_ble_eq_true rfl) rfl rfl rfl qf_X7_326 dX7_lay_88 ew65 (fun H locs hE => ?_)
    refine lv_iload_n hx hb dX7_lay_91 rfl (lv_at hl 4 rfl) ?_
    refine lv_iconst (v := 1) hx hb dX7_lay_92 (by decide) ?_
    refine lv_icmp_ne (tgt := 127) hx hb dX7_lay_93 (by decide) (fun c66 => ?_) (fun c66 => ?_)
    · have h := zif' c66 h
      refine lv_iload_n hx hb dX7_lay_127 rfl (lv_at hl 4 rfl) ?_
      refine lv_iconst (v := 2) hx hb dX7_lay_128 (by decide) ?_
      refine lv_icmp_ne (tgt := 149) hx hb dX7_lay_129 (by decide) (fun c67 => ?_) (fun c67 => ?_)
      · have h := zif' c67 h
        refine lv_aload hx hb dX7_lay_149 (lv_at hl 1 rfl) ?_
        refine lv_iload_n hx hb dX7_lay_151 rfl (lv_at hl 5 rfl) ?_
        obtain ⟨w68, ew68, h⟩ := zbdE h
        refine zr_putI S hK hE zcl_X3 (zcL0 (zq5_L eq63) w65) 4 (Nat.le_of_ble_eq_true rfl) rfl rfl rfl qf_X7_341 dX7_lay_152 ew68 (fun H locs hE => ?_)
        refine lv_iload hx hb dX7_lay_155 (lv_at hl 0 rfl) ?_
        exact zr_iret S hE hr hlk h dX7_lay_157
      · have h := zif c67 h
        refine lv_aload hx hb dX7_lay_132 (lv_at hl 1 rfl) ?_
        refine zr_getA S hK hE zcl_X3 (zcL0 (zq5_L eq63) w65) 0 (Nat.le_of_ble_eq_true rfl) (q := q63 + 1) rfl qf_X7_334 dX7_lay_134 ?_
        refine lv_aload_n hx hb dX7_lay_137 rfl (lv_at hl 2 rfl) ?_
        refine zr_getA S hK hE zcl_X7 (zc_0 w65) 5 (Nat.le_of_ble_eq_true rfl) (q := 39) rfl qf_X7_38 dX7_lay_138 ?_
        refine lv_iload_n hx hb dX7_lay_141 rfl (lv_at hl 5 rfl) ?_
        obtain ⟨q69, eq69, h⟩ := zbdE h
        refine zr_aald4 S hK hE (zc_39 w65) dX7_lay_142 eq69 ?_
        obtain ⟨w70, ew70, h⟩ := zbdE h
        refine zr_v (zr_runV (As := [.ref (ad q69)]) S hX hE (kX2_takeFrom l D tc lo ad fr zq (q63 + 1) q69 w65 w70 ew70) zyX2_takeFrom qm_X7_338 zcl_X2 rfl (zcS0 (zcL1 (zq5_L eq63)) w65) ⟨rfl, rfl⟩ ⟨Nat.le_of_ble_eq_true rfl, Nat.le_of_ble_eq_true rfl⟩ rfl hl.1 rfl (Nat.le_of_ble_eq_true rfl) dX7_lay_143 ⟨Nat.zero_le _, Nat.zero_le _⟩) hE (fun H locs hE => ?_)
        refine lv_goto (tgt := 155) hx hb dX7_lay_146 (by decide) ?_
        refine lv_iload hx hb dX7_lay_155 (lv_at hl 0 rfl) ?_
        exact zr_iret S hE hr hlk h dX7_lay_157
    · have h := zif c66 h
      refine lv_aload hx hb dX7_lay_96 (lv_at hl 1 rfl) ?_
      refine lv_aload_n hx hb dX7_lay_98 rfl (lv_at hl 2 rfl) ?_
      refine zr_getA S hK hE zcl_X7 (zc_0 w65) 0 (Nat.le_of_ble_eq_true rfl) (q := 1) rfl qf_X7_10 dX7_lay_99 ?_
      refine zr_getA S hK hE zcl_X6 (zcW0 zW1 w65) 0 (Nat.le_of_ble_eq_true rfl) (q := 1 + 1) rfl qf_X7_81 dX7_lay_102 ?_
      refine lv_iload_n hx hb dX7_lay_105 rfl (lv_at hl 5 rfl) ?_
      obtain ⟨x71, ex71, h⟩ := zbdE h
      refine zr_iald S hK hE (zcW1 zW1 w65) dX7_lay_106 ex71 ?_
      obtain ⟨w72, ew72, h⟩ := zbdE h
      refine zr_putI S hK hE zcl_X3 (zcL0 (zq5_L eq63) w65) 2 (Nat.le_of_ble_eq_true rfl) rfl rfl rfl qf_X7_329 dX7_lay_107 ew72 (fun H locs hE => ?_)
      refine lv_aload hx hb dX7_lay_110 (lv_at hl 1 rfl) ?_
      refine lv_aload_n hx hb dX7_lay_112 rfl (lv_at hl 2 rfl) ?_
      refine zr_getA S hK hE zcl_X7 (zc_0 w72) 0 (Nat.le_of_ble_eq_true rfl) (q := 1) rfl qf_X7_10 dX7_lay_113 ?_
      refine zr_getA S hK hE zcl_X6 (zcW0 zW1 w72) 3 (Nat.le_of_ble_eq_true rfl) (q := 1 + 4) rfl qf_X7_90 dX7_lay_116 ?_
      refine lv_iload_n hx hb dX7_lay_119 rfl (lv_at hl 5 rfl) ?_
      obtain ⟨x73, ex73, h⟩ := zbdE h
      refine zr_iald S hK hE (zcW4 zW1 w72) dX7_lay_120 ex73 ?_
      obtain ⟨w74, ew74, h⟩ := zbdE h
      refine zr_putI S hK hE zcl_X3 (zcL0 (zq5_L eq63) w72) 3 (Nat.le_of_ble_eq_true rfl) rfl rfl rfl qf_X7_332 dX7_lay_121 ew74 (fun H locs hE => ?_)
      refine lv_goto (tgt := 155) hx hb dX7_lay_124 (by decide) ?_
      refine lv_iload hx hb dX7_lay_155 (lv_at hl 0 rfl) ?_
      exact zr_iret S hE hr hlk h dX7_lay_157
  have J50 : ∀ (l1 : Int32) (l2 : Int32) (l3 : Int32) (w : zz_W) (ls : Array Slot) (H : Heap) (locs : List Loc), fX7_lay_50 a1 a2 a3 l1 l2 l3 w = some (r, w_) → lv_has ls 6 [(0, .ref (ad 0)), (1, .int l1), (2, .int l2), (3, .int l3)] → zE D tc lo ad zshC znnC fr w s.heap H locs → W p l e { frames := 2, cells := 0, slots := 0, locals := 47 } s m args below meth c H locs 0 0 (zZi D tc lo ad zshC znnC fr below args s r w_) (F0 m 50 ls []) := by
    intro l1 l2 l3 w ls H locs h hl hE
    unfold fX7_lay_50 at h
    refine lv_iload_n hx hb dX7_lay_50 rfl (lv_at hl 2 rfl) ?_
    refine lv_iconst (v := 2) hx hb dX7_lay_51 (by decide) ?_
    refine lv_icmp_ne (tgt := 70) hx hb dX7_lay_52 (by decide) (fun c75 => ?_) (fun c75 => ?_)
    · have h := zif' c75 h
      exact J70 l1 l2 l3 w ls _ _ h (lv_sub hl [0, 1, 2, 3] rfl) hE
    · have h := zif c75 h
      refine lv_aload_n hx hb dX7_lay_55 rfl (lv_at hl 0 rfl) ?_
      refine zr_getA S hK hE zcl_X7 (zc_0 w) 5 (Nat.le_of_ble_eq_true rfl) (q := 39) rfl qf_X7_38 dX7_lay_56 ?_
      refine lv_iload_n hx hb dX7_lay_59 rfl (lv_at hl 3 rfl) ?_
      obtain ⟨q76, eq76, h⟩ := zbdE h
      refine zr_aald4 S hK hE (zc_39 w) dX7_lay_60 eq76 ?_
      obtain ⟨x77, w78, ew78, h⟩ := zbd2E h
      refine zr_i (zr_runV (As := []) S hX hE (kX2_isMissing l D tc lo ad fr zq q76 w x77 w78 ew78) zyX2_isMissing qm_X7_234 zcl_X2 rfl (zcS0 (zq4_S eq76) w) ⟨rfl, rfl⟩ ⟨Nat.le_of_ble_eq_true rfl, Nat.le_of_ble_eq_true rfl⟩ rfl hl.1 rfl (Nat.le_of_ble_eq_true rfl) dX7_lay_61 ⟨Nat.zero_le _, Nat.zero_le _⟩) hE (fun H locs hE => ?_)
      refine lv_if_eq (tgt := 70) hx hb dX7_lay_64 (by decide) (fun c79 => ?_) (fun c79 => ?_)
      · have h := zif c79 h
        exact J70 l1 l2 l3 w78 ls _ _ h (lv_sub hl [0, 1, 2, 3] rfl) hE
      · have h := zif' c79 h
        refine zr_ldc S qc_X7_237 dX7_lay_67 ?_
        exact zr_iret S hE hr hlk h dX7_lay_69
  have J35 : ∀ (l1 : Int32) (l2 : Int32) (l3 : Int32) (w : zz_W) (ls : Array Slot) (H : Heap) (locs : List Loc), fX7_lay_35 a1 a2 a3 l1 l2 l3 w = some (r, w_) → lv_has ls 6 [(0, .ref (ad 0)), (1, .int l1), (2, .int l2), (3, .int l3)] → zE D tc lo ad zshC znnC fr w s.heap H locs → W p l e { frames := 2, cells := 0, slots := 0, locals := 47 } s m args below meth c H locs 0 0 (zZi D tc lo ad zshC znnC fr below args s r w_) (F0 m 35 ls []) := by
    intro l1 l2 l3 w ls H locs h hl hE
    unfold fX7_lay_35 at h
    refine lv_iload_n hx hb dX7_lay_35 rfl (lv_at hl 2 rfl) ?_
    refine lv_iconst (v := 2) hx hb dX7_lay_36 (by decide) ?_
    refine lv_icmp_ne (tgt := 50) hx hb dX7_lay_37 (by decide) (fun c80 => ?_) (fun c80 => ?_)
    · have h := zif' c80 h
      exact J50 l1 l2 l3 w ls _ _ h (lv_sub hl [0, 1, 2, 3] rfl) hE
    · have h := zif c80 h
      refine lv_iload_n hx hb dX7_lay_40 rfl (lv_at hl 3 rfl) ?_
      obtain ⟨x81, w82, ew82, h⟩ := zbd2E h
      refine zr_i (zr_runS (As := [.int l3]) S hX hE (kX7_isSheet l D tc lo ad fr zq l3 w x81 w82 ew82) zyX7_isSheet qm_X7_203 ⟨rfl, rfl⟩ ⟨Nat.le_of_ble_eq_true rfl, Nat.le_of_ble_eq_true rfl⟩ rfl hl.1 rfl (Nat.le_of_ble_eq_true rfl) dX7_lay_41 ⟨Nat.zero_le _, Nat.zero_le _⟩) hE (fun H locs hE => ?_)
      refine lv_if_ne (tgt := 50) hx hb dX7_lay_44 (by decide) (fun c83 => ?_) (fun c83 => ?_)
      · have h := zif' c83 h
        exact J50 l1 l2 l3 w82 ls _ _ h (lv_sub hl [0, 1, 2, 3] rfl) hE
      · have h := zif c83 h
        refine zr_ldc S qc_X7_68 dX7_lay_47 ?_
        exact zr_iret S hE hr hlk h dX7_lay_49
  refine lv_iload_n hx hb dX7_lay_0 rfl (lv_at hl 1 rfl) ?_
  obtain ⟨x10001, w10002, ew10002, h⟩ := zbd2E h
  refine zr_i (zr_runS (As := [.int a1]) S hX hE (kX7_isSlot l D tc lo ad fr zq a1 w x10001 w10002 ew10002) zyX7_isSlot qm_X7_323 ⟨rfl, rfl⟩ ⟨Nat.le_of_ble_eq_true rfl, Nat.le_of_ble_eq_true rfl⟩ rfl hl.1 rfl (Nat.le_of_ble_eq_true rfl) dX7_lay_1 ⟨Nat.zero_le _, Nat.zero_le _⟩) hE (fun H locs hE => ?_)
  refine lv_if_eq (tgt := 16) hx hb dX7_lay_4 (by decide) (fun c10003 => ?_) (fun c10003 => ?_)
  · have h := zif c10003 h
    refine zr_ldc S qc_X7_68 dX7_lay_16 ?_
    exact zr_iret S hE hr hlk h dX7_lay_18
  · have h := zif' c10003 h
    refine lv_iload_n hx hb dX7_lay_7 rfl (lv_at hl 2 rfl) ?_
    refine lv_iconst (v := 0) hx hb dX7_lay_8 (by decide) ?_
    refine lv_iconst (v := 3) hx hb dX7_lay_9 (by decide) ?_
    obtain ⟨x10004, w10005, ew10005, h⟩ := zbd2E h
    refine zr_i (zr_runS (As := [.int a2, .int 0, .int 3]) S hX hE (kX7_within l D tc lo ad fr zq a2 0 3 w10002 x10004 w10005 ew10005) zyX7_within qm_X7_61 ⟨rfl, rfl⟩ ⟨Nat.le_of_ble_eq_true rfl, Nat.le_of_ble_eq_true rfl⟩ rfl hl.1 rfl (Nat.le_of_ble_eq_true rfl) dX7_lay_10 ⟨Nat.zero_le _, Nat.zero_le _⟩) hE (fun H locs hE => ?_)
    refine lv_if_ne (tgt := 19) hx hb dX7_lay_13 (by decide) (fun c10006 => ?_) (fun c10006 => ?_)
    · have h := zif' c10006 h
      refine lv_iload_n hx hb dX7_lay_19 rfl (lv_at hl 2 rfl) ?_
      refine lv_iconst (v := 1) hx hb dX7_lay_20 (by decide) ?_
      refine lv_icmp_ne (tgt := 35) hx hb dX7_lay_21 (by decide) (fun c10007 => ?_) (fun c10007 => ?_)
      · have h := zif' c10007 h
        exact J35 a1 a2 a3 w10005 ls _ _ h (lv_sub hl [0, 1, 2, 3] rfl) hE
      · have h := zif c10007 h
        refine lv_aload_n hx hb dX7_lay_24 rfl (lv_at hl 0 rfl) ?_
        refine zr_getA S hK hE zcl_X7 (zc_0 w10005) 0 (Nat.le_of_ble_eq_true rfl) (q := 1) rfl qf_X7_10 dX7_lay_25 ?_
        refine lv_iload_n hx hb dX7_lay_28 rfl (lv_at hl 3 rfl) ?_
        obtain ⟨x10008, w10009, ew10009, h⟩ := zbd2E h
        refine zr_i (zr_runV (As := [.int a3]) S hX hE (kX6_isRun l D tc lo ad fr zq 1 a3 w10005 x10008 w10009 ew10009) zyX6_isRun qm_X7_78 zcl_X6 rfl (zcW0 zW1 w10005) ⟨rfl, rfl⟩ ⟨Nat.le_of_ble_eq_true rfl, Nat.le_of_ble_eq_true rfl⟩ rfl hl.1 rfl (Nat.le_of_ble_eq_true rfl) dX7_lay_29 ⟨Nat.zero_le _, Nat.zero_le _⟩) hE (fun H locs hE => ?_)
        refine lv_if_eq (tgt := 47) hx hb dX7_lay_32 (by decide) (fun c10010 => ?_) (fun c10010 => ?_)
        · have h := zif c10010 h
          refine zr_ldc S qc_X7_68 dX7_lay_47 ?_
          exact zr_iret S hE hr hlk h dX7_lay_49
        · have h := zif' c10010 h
          exact J35 a1 a2 a3 w10009 ls _ _ h (lv_sub hl [0, 1, 2, 3] rfl) hE
    · have h := zif c10006 h
      refine zr_ldc S qc_X7_68 dX7_lay_16 ?_
      exact zr_iret S hE hr hlk h dX7_lay_18
set_option maxHeartbeats 4000000 in
set_option maxRecDepth 100000 in
theorem kX7_makePlan (l : Launch) (D : va_G) (tc : Nat → ClassId) (lo : Nat) (ad : Nat → Nat) (fr : va_W) (zq : zz_Q) (a1 : Int32) (a2 : Int32) (w : zz_W) (r : Int32) (w_ : zz_W) (h : fX7_makePlan a1 a2 w = some (r, w_)) : zMi l yX7_makePlan cX7_makePlan 4 (some .int) { frames := 6, cells := 0, slots := 0, locals := 142 } D tc lo ad zshC znnC fr zq [.ref (ad 0), .int a1, .int a2] w r w_ := by
  refine zr_entry (by decide) (Nat.le_of_ble_eq_true rfl) fun p e s m args below meth c ls S hX hr hlk hE hl => ?_
  have S : CallFix p m c cX7_makePlan 4 s args (Cond.code yX7_makePlan cX7_makePlan 4 (some .int) :: zw_tb) RX7 := S
  have hx := S.1
  have hb := S.2.1
  have hK := hX.2.1
  have hl : lv_has ls 4 [(0, .ref (ad 0)), (1, .int a1), (2, .int a2)] := hl
  unfold fX7_makePlan at h
  refine lv_aload_n hx hb dX7_makePlan_0 rfl (lv_at hl 0 rfl) ?_
  refine zr_getA S hK hE zcl_X7 (zc_0 w) 5 (Nat.le_of_ble_eq_true rfl) (q := 39) rfl qf_X7_38 dX7_makePlan_1 ?_
  refine lv_iload_n hx hb dX7_makePlan_4 rfl (lv_at hl 1 rfl) ?_
  obtain ⟨q10001, eq10001, h⟩ := zbdE h
  refine zr_aald4 S hK hE (zc_39 w) dX7_makePlan_5 eq10001 ?_
  refine lv_astore_n (lv' := [(3, .ref (ad q10001)), (0, .ref (ad 0)), (1, .int a1), (2, .int a2)]) hx hb dX7_makePlan_6 rfl hl (by decide) rfl (fun ls hl => ?_)
  refine lv_aload_n hx hb dX7_makePlan_7 rfl (lv_at hl 0 rfl) ?_
  obtain ⟨x10002, w10003, ew10003, h⟩ := zbd2E h
  refine zr_i (zr_runV (As := []) S hX hE (kX2_isMissing l D tc lo ad fr zq q10001 w x10002 w10003 ew10003) zyX2_isMissing qm_X7_234 zcl_X2 rfl (zcS0 (zq4_S eq10001) w) ⟨rfl, rfl⟩ ⟨Nat.le_of_ble_eq_true rfl, Nat.le_of_ble_eq_true rfl⟩ rfl hl.1 rfl (Nat.le_of_ble_eq_true rfl) dX7_makePlan_8 ⟨Nat.zero_le _, Nat.zero_le _⟩) hE (fun H locs hE => ?_)
  refine lv_if_eq (tgt := 17) hx hb dX7_makePlan_11 (by decide) (fun c10004 => ?_) (fun c10004 => ?_)
  · have h := zif c10004 h
    refine lv_aload_n hx hb dX7_makePlan_17 rfl (lv_at hl 1 rfl) ?_
    refine zr_getA S hK hE zcl_X7 (zc_0 w10003) 0 (Nat.le_of_ble_eq_true rfl) (q := 1) rfl qf_X7_10 dX7_makePlan_18 ?_
    obtain ⟨x10005, ex10005, h⟩ := zbdE h
    refine zr_getI S hK hE zcl_X6 (zcW0 zW1 w10003) 9 (Nat.le_of_ble_eq_true rfl) rfl qf_X7_69 dX7_makePlan_21 ex10005 ?_
    refine lv_if_ne (tgt := 30) hx hb dX7_makePlan_24 (by decide) (fun c10006 => ?_) (fun c10006 => ?_)
    · have h := zif' c10006 h
      refine lv_aload_n hx hb dX7_makePlan_30 rfl (lv_at hl 1 rfl) ?_
      refine zr_getA S hK hE zcl_X7 (zc_0 w10003) 3 (Nat.le_of_ble_eq_true rfl) (q := 31) rfl qf_X7_25 dX7_makePlan_31 ?_
      refine lv_aload_n hx hb dX7_makePlan_34 rfl (lv_at hl 0 rfl) ?_
      obtain ⟨w10007, ew10007, h⟩ := zbdE h
      refine zr_v (zr_runV (As := [.ref (ad q10001)]) S hX hE (kX1_wish l D tc lo ad fr zq q10001 w10003 w10007 ew10007) zyX1_wish qm_X7_354 zcl_X1 rfl (zc_31 w10003) ⟨rfl, rfl⟩ ⟨Nat.le_of_ble_eq_true rfl, Nat.le_of_ble_eq_true rfl⟩ rfl hl.1 rfl (Nat.le_of_ble_eq_true rfl) dX7_makePlan_35 ⟨Nat.zero_le _, Nat.zero_le _⟩) hE (fun H locs hE => ?_)
      refine lv_aload_n hx hb dX7_makePlan_38 rfl (lv_at hl 1 rfl) ?_
      refine zr_getA S hK hE zcl_X7 (zc_0 w10007) 3 (Nat.le_of_ble_eq_true rfl) (q := 31) rfl qf_X7_25 dX7_makePlan_39 ?_
      obtain ⟨x10008, ex10008, h⟩ := zbdE h
      refine zr_getI S hK hE zcl_X1 (zc_31 w10007) 0 (Nat.le_of_ble_eq_true rfl) rfl qf_X7_357 dX7_makePlan_42 ex10008 ?_
      refine lv_if_ne (tgt := 51) hx hb dX7_makePlan_45 (by decide) (fun c10009 => ?_) (fun c10009 => ?_)
      · have h := zif' c10009 h
        refine lv_aload_n hx hb dX7_makePlan_51 rfl (lv_at hl 1 rfl) ?_
        refine zr_getA S hK hE zcl_X7 (zc_0 w10007) 3 (Nat.le_of_ble_eq_true rfl) (q := 31) rfl qf_X7_25 dX7_makePlan_52 ?_
        refine lv_aload_n hx hb dX7_makePlan_55 rfl (lv_at hl 1 rfl) ?_
        refine zr_getA S hK hE zcl_X7 (zc_0 w10007) 0 (Nat.le_of_ble_eq_true rfl) (q := 1) rfl qf_X7_10 dX7_makePlan_56 ?_
        refine lv_iload_n hx hb dX7_makePlan_59 rfl (lv_at hl 3 rfl) ?_
        obtain ⟨w10010, ew10010, h⟩ := zbdE h
        refine zr_v (zr_runV (As := [.ref (ad 1), .int a2]) S hX hE (kX1_weigh l D tc lo ad fr zq 1 a2 w10007 w10010 ew10010) zyX1_weigh qm_X7_360 zcl_X1 rfl (zc_31 w10007) ⟨rfl, rfl⟩ ⟨Nat.le_of_ble_eq_true rfl, Nat.le_of_ble_eq_true rfl⟩ rfl hl.1 rfl (Nat.le_of_ble_eq_true rfl) dX7_makePlan_60 ⟨Nat.zero_le _, Nat.zero_le _⟩) hE (fun H locs hE => ?_)
        refine lv_iconst (v := 0) hx hb dX7_makePlan_63 (by decide) ?_
        exact zr_iret S hE hr hlk h dX7_makePlan_64
      · have h := zif c10009 h
        refine zr_ldc S qc_X7_184 dX7_makePlan_48 ?_
        exact zr_iret S hE hr hlk h dX7_makePlan_50
    · have h := zif c10006 h
      refine zr_ldc S qc_X7_184 dX7_makePlan_27 ?_
      exact zr_iret S hE hr hlk h dX7_makePlan_29
  · have h := zif' c10004 h
    refine zr_ldc S qc_X7_237 dX7_makePlan_14 ?_
    exact zr_iret S hE hr hlk h dX7_makePlan_16
set_option maxHeartbeats 4000000 in
set_option maxRecDepth 100000 in
theorem kX7_learn (l : Launch) (D : va_G) (tc : Nat → ClassId) (lo : Nat) (ad : Nat → Nat) (fr : va_W) (zq : zz_Q) (a1 : Int32) (a2 : Int32) (a3 : Int32) (a4 : Int32) (w : zz_W) (r : Int32) (w_ : zz_W) (h : fX7_learn a1 a2 a3 a4 w = some (r, w_)) : zMi l yX7_learn cX7_learn 6 (some .int) { frames := 7, cells := 0, slots := 0, locals := 165 } D tc lo ad zshC znnC fr zq [.ref (ad 0), .int a1, .int a2, .int a3, .int a4] w r w_ := by
  refine zr_entry (by decide) (Nat.le_of_ble_eq_true rfl) fun p e s m args below meth c ls S hX hr hlk hE hl => ?_
  have S : CallFix p m c cX7_learn 6 s args (Cond.code yX7_learn cX7_learn 6 (some .int) :: zw_tb) RX7 := S
  have hx := S.1
  have hb := S.2.1
  have hK := hX.2.1
  have hl : lv_has ls 6 [(0, .ref (ad 0)), (1, .int a1), (2, .int a2), (3, .int a3), (4, .int a4)] := hl
  unfold fX7_learn at h
  refine lv_iload_n hx hb dX7_learn_0 rfl (lv_at hl 1 rfl) ?_
  obtain ⟨x10001, w10002, ew10002, h⟩ := zbd2E h
  refine zr_i (zr_runS (As := [.int a1]) S hX hE (kX7_isSort l D tc lo ad fr zq a1 w x10001 w10002 ew10002) zyX7_isSort qm_X7_136 ⟨rfl, rfl⟩ ⟨Nat.le_of_ble_eq_true rfl, Nat.le_of_ble_eq_true rfl⟩ rfl hl.1 rfl (Nat.le_of_ble_eq_true rfl) dX7_learn_1 ⟨Nat.zero_le _, Nat.zero_le _⟩) hE (fun H locs hE => ?_)
  refine lv_if_eq (tgt := 29) hx hb dX7_learn_4 (by decide) (fun c10003 => ?_) (fun c10003 => ?_)
  · have h := zif c10003 h
    refine zr_ldc S qc_X7_68 dX7_learn_29 ?_
    exact zr_iret S hE hr hlk h dX7_learn_31
  · have h := zif' c10003 h
    refine lv_iload_n hx hb dX7_learn_7 rfl (lv_at hl 2 rfl) ?_
    obtain ⟨x10004, w10005, ew10005, h⟩ := zbd2E h
    refine zr_i (zr_runS (As := [.int a2]) S hX hE (kX7_isCell l D tc lo ad fr zq a2 w10002 x10004 w10005 ew10005) zyX7_isCell qm_X7_58 ⟨rfl, rfl⟩ ⟨Nat.le_of_ble_eq_true rfl, Nat.le_of_ble_eq_true rfl⟩ rfl hl.1 rfl (Nat.le_of_ble_eq_true rfl) dX7_learn_8 ⟨Nat.zero_le _, Nat.zero_le _⟩) hE (fun H locs hE => ?_)
    refine lv_if_eq (tgt := 29) hx hb dX7_learn_11 (by decide) (fun c10006 => ?_) (fun c10006 => ?_)
    · have h := zif c10006 h
      refine zr_ldc S qc_X7_68 dX7_learn_29 ?_
      exact zr_iret S hE hr hlk h dX7_learn_31
    · have h := zif' c10006 h
      refine lv_iload_n hx hb dX7_learn_14 rfl (lv_at hl 3 rfl) ?_
      obtain ⟨x10007, w10008, ew10008, h⟩ := zbd2E h
      refine zr_i (zr_runS (As := [.int a3]) S hX hE (kX7_isSheet l D tc lo ad fr zq a3 w10005 x10007 w10008 ew10008) zyX7_isSheet qm_X7_203 ⟨rfl, rfl⟩ ⟨Nat.le_of_ble_eq_true rfl, Nat.le_of_ble_eq_true rfl⟩ rfl hl.1 rfl (Nat.le_of_ble_eq_true rfl) dX7_learn_15 ⟨Nat.zero_le _, Nat.zero_le _⟩) hE (fun H locs hE => ?_)
      refine lv_if_eq (tgt := 29) hx hb dX7_learn_18 (by decide) (fun c10009 => ?_) (fun c10009 => ?_)
      · have h := zif c10009 h
        refine zr_ldc S qc_X7_68 dX7_learn_29 ?_
        exact zr_iret S hE hr hlk h dX7_learn_31
      · have h := zif' c10009 h
        refine lv_iload hx hb dX7_learn_21 (lv_at hl 4 rfl) ?_
        obtain ⟨x10010, w10011, ew10011, h⟩ := zbd2E h
        refine zr_i (zr_runS (As := [.int a4]) S hX hE (kX7_isDepth l D tc lo ad fr zq a4 w10008 x10010 w10011 ew10011) zyX7_isDepth qm_X7_65 ⟨rfl, rfl⟩ ⟨Nat.le_of_ble_eq_true rfl, Nat.le_of_ble_eq_true rfl⟩ rfl hl.1 rfl (Nat.le_of_ble_eq_true rfl) dX7_learn_23 ⟨Nat.zero_le _, Nat.zero_le _⟩) hE (fun H locs hE => ?_)
        refine lv_if_ne (tgt := 32) hx hb dX7_learn_26 (by decide) (fun c10012 => ?_) (fun c10012 => ?_)
        · have h := zif' c10012 h
          refine lv_aload_n hx hb dX7_learn_32 rfl (lv_at hl 0 rfl) ?_
          refine lv_iload_n hx hb dX7_learn_33 rfl (lv_at hl 3 rfl) ?_
          refine lv_iload hx hb dX7_learn_34 (lv_at hl 4 rfl) ?_
          obtain ⟨x10013, w10014, ew10014, h⟩ := zbd2E h
          refine zr_i (zr_runV (As := [.int a3, .int a4]) S hX hE (kX7_makePlan l D tc lo ad fr zq a3 a4 w10011 x10013 w10014 ew10014) zyX7_makePlan qm_X7_206 zcl_X7 rfl (zc_0 w10011) ⟨rfl, rfl⟩ ⟨Nat.le_of_ble_eq_true rfl, Nat.le_of_ble_eq_true rfl⟩ rfl hl.1 rfl (Nat.le_of_ble_eq_true rfl) dX7_learn_36 ⟨Nat.zero_le _, Nat.zero_le _⟩) hE (fun H locs hE => ?_)
          refine lv_istore (lv' := [(5, .int x10013), (0, .ref (ad 0)), (1, .int a1), (2, .int a2), (3, .int a3), (4, .int a4)]) hx hb dX7_learn_39 hl (by decide) rfl (fun ls hl => ?_)
          refine lv_iload hx hb dX7_learn_41 (lv_at hl 0 rfl) ?_
          refine lv_if_eq (tgt := 51) hx hb dX7_learn_43 (by decide) (fun c10015 => ?_) (fun c10015 => ?_)
          · have h := zif c10015 h
            refine lv_aload_n hx hb dX7_learn_51 rfl (lv_at hl 1 rfl) ?_
            refine zr_getA S hK hE zcl_X7 (zc_0 w10014) 3 (Nat.le_of_ble_eq_true rfl) (q := 31) rfl qf_X7_25 dX7_learn_52 ?_
            refine lv_aload_n hx hb dX7_learn_55 rfl (lv_at hl 1 rfl) ?_
            refine zr_getA S hK hE zcl_X7 (zc_0 w10014) 0 (Nat.le_of_ble_eq_true rfl) (q := 1) rfl qf_X7_10 dX7_learn_56 ?_
            refine lv_iload_n hx hb dX7_learn_59 rfl (lv_at hl 2 rfl) ?_
            refine lv_iload_n hx hb dX7_learn_60 rfl (lv_at hl 3 rfl) ?_
            obtain ⟨x10016, w10017, ew10017, h⟩ := zbd2E h
            refine zr_i (zr_runV (As := [.ref (ad 1), .int a1, .int a2]) S hX hE (kX1_learnBy l D tc lo ad fr zq 1 a1 a2 w10014 x10016 w10017 ew10017) zyX1_learnBy qm_X7_217 zcl_X1 rfl (zc_31 w10014) ⟨rfl, rfl⟩ ⟨Nat.le_of_ble_eq_true rfl, Nat.le_of_ble_eq_true rfl⟩ rfl hl.1 rfl (Nat.le_of_ble_eq_true rfl) dX7_learn_61 ⟨Nat.zero_le _, Nat.zero_le _⟩) hE (fun H locs hE => ?_)
            exact zr_iret S hE hr hlk h dX7_learn_64
          · have h := zif' c10015 h
            refine lv_iload hx hb dX7_learn_46 (lv_at hl 0 rfl) ?_
            refine lv_goto (tgt := 64) hx hb dX7_learn_48 (by decide) ?_
            exact zr_iret S hE hr hlk h dX7_learn_64
        · have h := zif c10012 h
          refine zr_ldc S qc_X7_68 dX7_learn_29 ?_
          exact zr_iret S hE hr hlk h dX7_learn_31
set_option maxHeartbeats 4000000 in
set_option maxRecDepth 100000 in
theorem kX7_mark (l : Launch) (D : va_G) (tc : Nat → ClassId) (lo : Nat) (ad : Nat → Nat) (fr : va_W) (zq : zz_Q) (a1 : Int32) (a2 : Int32) (a3 : Int32) (w : zz_W) (r : Int32) (w_ : zz_W) (h : fX7_mark a1 a2 a3 w = some (r, w_)) : zMi l yX7_mark cX7_mark 5 (some .int) { frames := 2, cells := 0, slots := 0, locals := 43 } D tc lo ad zshC znnC fr zq [.ref (ad 0), .int a1, .int a2, .int a3] w r w_ := by
  refine zr_entry (by decide) (Nat.le_of_ble_eq_true rfl) fun p e s m args below meth c ls S hX hr hlk hE hl => ?_
  have S : CallFix p m c cX7_mark 5 s args (Cond.code yX7_mark cX7_mark 5 (some .int) :: zw_tb) RX7 := S
  have hx := S.1
  have hb := S.2.1
  have hK := hX.2.1
  have hl : lv_has ls 5 [(0, .ref (ad 0)), (1, .int a1), (2, .int a2), (3, .int a3)] := hl
  unfold fX7_mark at h
  have J91 : ∀ (l2 : Int32) (l3 : Int32) (l4 : Nat) (w : zz_W) (ls : Array Slot) (H : Heap) (locs : List Loc), fX7_mark_91 a1 a2 a3 l2 l3 l4 w = some (r, w_) → lv_has ls 5 [(2, .int l2), (3, .int l3), (4, .ref (ad l4))] → zE D tc lo ad zshC znnC fr w s.heap H locs → W p l e { frames := 2, cells := 0, slots := 0, locals := 43 } s m args below meth c H locs 0 0 (zZi D tc lo ad zshC znnC fr below args s r w_) (F0 m 91 ls []) := by
    intro l2 l3 l4 w ls H locs h hl hE
    unfold fX7_mark_91 at h
    obtain ⟨hgl4, h⟩ := zgrdE h
    refine lv_aload hx hb dX7_mark_91 (lv_at hl 2 rfl) ?_
    refine zr_getA S hK hE zcl_X2 (zcS0 hgl4 w) 0 (Nat.le_of_ble_eq_true rfl) (q := l4 + 1) rfl qf_X7_301 dX7_mark_93 ?_
    refine lv_iload_n hx hb dX7_mark_96 rfl (lv_at hl 0 rfl) ?_
    refine lv_iload_n hx hb dX7_mark_97 rfl (lv_at hl 1 rfl) ?_
    obtain ⟨w39, ew39, h⟩ := zbdE h
    refine zr_iast S hK hE (zcS1 hgl4 w) dX7_mark_98 ew39 (fun H locs hE => ?_)
    refine lv_iconst (v := 1) hx hb dX7_mark_99 (by decide) ?_
    exact zr_iret S hE hr hlk h dX7_mark_100
  refine lv_iload_n hx hb dX7_mark_0 rfl (lv_at hl 1 rfl) ?_
  obtain ⟨x10001, w10002, ew10002, h⟩ := zbd2E h
  refine zr_i (zr_runS (As := [.int a1]) S hX hE (kX7_isSheet l D tc lo ad fr zq a1 w x10001 w10002 ew10002) zyX7_isSheet qm_X7_203 ⟨rfl, rfl⟩ ⟨Nat.le_of_ble_eq_true rfl, Nat.le_of_ble_eq_true rfl⟩ rfl hl.1 rfl (Nat.le_of_ble_eq_true rfl) dX7_mark_1 ⟨Nat.zero_le _, Nat.zero_le _⟩) hE (fun H locs hE => ?_)
  refine lv_if_ne (tgt := 10) hx hb dX7_mark_4 (by decide) (fun c10003 => ?_) (fun c10003 => ?_)
  · have h := zif' c10003 h
    refine lv_aload_n hx hb dX7_mark_10 rfl (lv_at hl 0 rfl) ?_
    refine zr_getA S hK hE zcl_X7 (zc_0 w10002) 5 (Nat.le_of_ble_eq_true rfl) (q := 39) rfl qf_X7_38 dX7_mark_11 ?_
    refine lv_iload_n hx hb dX7_mark_14 rfl (lv_at hl 1 rfl) ?_
    obtain ⟨q10004, eq10004, h⟩ := zbdE h
    refine zr_aald4 S hK hE (zc_39 w10002) dX7_mark_15 eq10004 ?_
    refine lv_astore (lv' := [(4, .ref (ad q10004)), (0, .ref (ad 0)), (1, .int a1), (2, .int a2), (3, .int a3)]) hx hb dX7_mark_16 hl (by decide) rfl (fun ls hl => ?_)
    refine lv_aload hx hb dX7_mark_18 (lv_at hl 0 rfl) ?_
    obtain ⟨x10005, w10006, ew10006, h⟩ := zbd2E h
    refine zr_i (zr_runV (As := []) S hX hE (kX2_isMissing l D tc lo ad fr zq q10004 w10002 x10005 w10006 ew10006) zyX2_isMissing qm_X7_234 zcl_X2 rfl (zcS0 (zq4_S eq10004) w10002) ⟨rfl, rfl⟩ ⟨Nat.le_of_ble_eq_true rfl, Nat.le_of_ble_eq_true rfl⟩ rfl hl.1 rfl (Nat.le_of_ble_eq_true rfl) dX7_mark_20 ⟨Nat.zero_le _, Nat.zero_le _⟩) hE (fun H locs hE => ?_)
    refine lv_if_eq (tgt := 29) hx hb dX7_mark_23 (by decide) (fun c10007 => ?_) (fun c10007 => ?_)
    · have h := zif c10007 h
      refine lv_aload hx hb dX7_mark_29 (lv_at hl 0 rfl) ?_
      refine lv_iload_n hx hb dX7_mark_31 rfl (lv_at hl 3 rfl) ?_
      obtain ⟨x10008, w10009, ew10009, h⟩ := zbd2E h
      refine zr_i (zr_runV (As := [.int a2]) S hX hE (kX2_hasPlace l D tc lo ad fr zq q10004 a2 w10006 x10008 w10009 ew10009) zyX2_hasPlace qm_X7_294 zcl_X2 rfl (zcS0 (zq4_S eq10004) w10006) ⟨rfl, rfl⟩ ⟨Nat.le_of_ble_eq_true rfl, Nat.le_of_ble_eq_true rfl⟩ rfl hl.1 rfl (Nat.le_of_ble_eq_true rfl) dX7_mark_32 ⟨Nat.zero_le _, Nat.zero_le _⟩) hE (fun H locs hE => ?_)
      refine lv_if_ne (tgt := 42) hx hb dX7_mark_35 (by decide) (fun c10010 => ?_) (fun c10010 => ?_)
      · have h := zif' c10010 h
        refine lv_aload hx hb dX7_mark_42 (lv_at hl 0 rfl) ?_
        obtain ⟨x10011, ex10011, h⟩ := zbdE h
        refine zr_getI S hK hE zcl_X2 (zcS0 (zq4_S eq10004) w10009) 1 (Nat.le_of_ble_eq_true rfl) rfl qf_X7_298 dX7_mark_44 ex10011 ?_
        refine lv_if_ne (tgt := 70) hx hb dX7_mark_47 (by decide) (fun c10012 => ?_) (fun c10012 => ?_)
        · have h := zif' c10012 h
          refine lv_iload_n hx hb dX7_mark_70 rfl (lv_at hl 4 rfl) ?_
          refine zr_ldc S qc_X7_184 dX7_mark_71 ?_
          refine lv_icmp_eq (tgt := 91) hx hb dX7_mark_73 (by decide) (fun c10013 => ?_) (fun c10013 => ?_)
          · have h := zif c10013 h
            exact J91 a2 a3 q10004 w10009 ls _ _ h (lv_sub hl [3, 4, 0] rfl) hE
          · have h := zif' c10013 h
            refine lv_iload_n hx hb dX7_mark_76 rfl (lv_at hl 4 rfl) ?_
            refine zr_ldcw S qc_X7_304 dX7_mark_77 ?_
            refine zr_ldc S qc_X7_216 dX7_mark_80 ?_
            obtain ⟨x10014, w10015, ew10015, h⟩ := zbd2E h
            refine zr_i (zr_runS (As := [.int a3, .int (-99999), .int 99999]) S hX hE (kX7_within l D tc lo ad fr zq a3 (-99999) 99999 w10009 x10014 w10015 ew10015) zyX7_within qm_X7_61 ⟨rfl, rfl⟩ ⟨Nat.le_of_ble_eq_true rfl, Nat.le_of_ble_eq_true rfl⟩ rfl hl.1 rfl (Nat.le_of_ble_eq_true rfl) dX7_mark_82 ⟨Nat.zero_le _, Nat.zero_le _⟩) hE (fun H locs hE => ?_)
            refine lv_if_ne (tgt := 91) hx hb dX7_mark_85 (by decide) (fun c10016 => ?_) (fun c10016 => ?_)
            · have h := zif' c10016 h
              exact J91 a2 a3 q10004 w10015 ls _ _ h (lv_sub hl [3, 4, 0] rfl) hE
            · have h := zif c10016 h
              refine zr_ldc S qc_X7_68 dX7_mark_88 ?_
              exact zr_iret S hE hr hlk h dX7_mark_90
        · have h := zif c10012 h
          refine lv_iload_n hx hb dX7_mark_50 rfl (lv_at hl 4 rfl) ?_
          refine zr_ldc S qc_X7_184 dX7_mark_51 ?_
          refine lv_icmp_ne (tgt := 59) hx hb dX7_mark_53 (by decide) (fun c10017 => ?_) (fun c10017 => ?_)
          · have h := zif' c10017 h
            refine lv_aload hx hb dX7_mark_59 (lv_at hl 0 rfl) ?_
            refine zr_getA S hK hE zcl_X2 (zcS0 (zq4_S eq10004) w10009) 0 (Nat.le_of_ble_eq_true rfl) (q := q10004 + 1) rfl qf_X7_301 dX7_mark_61 ?_
            refine lv_iload_n hx hb dX7_mark_64 rfl (lv_at hl 3 rfl) ?_
            refine lv_iload_n hx hb dX7_mark_65 rfl (lv_at hl 4 rfl) ?_
            refine lv_i2s hx hb dX7_mark_66 rfl ?_
            obtain ⟨w10018, ew10018, h⟩ := zbdE h
            refine zr_iast S hK hE (zcS1 (zq4_S eq10004) w10009) dX7_mark_67 ew10018 (fun H locs hE => ?_)
            refine lv_iconst (v := 1) hx hb dX7_mark_68 (by decide) ?_
            exact zr_iret S hE hr hlk h dX7_mark_69
          · have h := zif c10017 h
            refine zr_ldc S qc_X7_120 dX7_mark_56 ?_
            exact zr_iret S hE hr hlk h dX7_mark_58
      · have h := zif c10010 h
        refine zr_ldcw S qc_X7_297 dX7_mark_38 ?_
        exact zr_iret S hE hr hlk h dX7_mark_41
    · have h := zif' c10007 h
      refine zr_ldc S qc_X7_237 dX7_mark_26 ?_
      exact zr_iret S hE hr hlk h dX7_mark_28
  · have h := zif c10003 h
    refine zr_ldc S qc_X7_68 dX7_mark_7 ?_
    exact zr_iret S hE hr hlk h dX7_mark_9
set_option maxHeartbeats 4000000 in
set_option maxRecDepth 100000 in
theorem kX7_passes (l : Launch) (D : va_G) (tc : Nat → ClassId) (lo : Nat) (ad : Nat → Nat) (fr : va_W) (zq : zz_Q) (a1 : Int32) (a2 : Int32) (w : zz_W) (r : Int32) (w_ : zz_W) (h : fX7_passes a1 a2 w = some (r, w_)) : zMi l yX7_passes cX7_passes 3 (some .int) { frames := 2, cells := 0, slots := 0, locals := 43 } D tc lo ad zshC znnC fr zq [.ref (ad 0), .int a1, .int a2] w r w_ := by
  refine zr_entry (by decide) (Nat.le_of_ble_eq_true rfl) fun p e s m args below meth c ls S hX hr hlk hE hl => ?_
  have S : CallFix p m c cX7_passes 3 s args (Cond.code yX7_passes cX7_passes 3 (some .int) :: zw_tb) RX7 := S
  have hx := S.1
  have hb := S.2.1
  have hK := hX.2.1
  have hl : lv_has ls 3 [(0, .ref (ad 0)), (1, .int a1), (2, .int a2)] := hl
  unfold fX7_passes at h
  refine lv_aload_n hx hb dX7_passes_0 rfl (lv_at hl 0 rfl) ?_
  refine zr_getA S hK hE zcl_X7 (zc_0 w) 0 (Nat.le_of_ble_eq_true rfl) (q := 1) rfl qf_X7_10 dX7_passes_1 ?_
  refine lv_iload_n hx hb dX7_passes_4 rfl (lv_at hl 1 rfl) ?_
  obtain ⟨x10001, w10002, ew10002, h⟩ := zbd2E h
  refine zr_i (zr_runV (As := [.int a1]) S hX hE (kX6_isRun l D tc lo ad fr zq 1 a1 w x10001 w10002 ew10002) zyX6_isRun qm_X7_78 zcl_X6 rfl (zcW0 zW1 w) ⟨rfl, rfl⟩ ⟨Nat.le_of_ble_eq_true rfl, Nat.le_of_ble_eq_true rfl⟩ rfl hl.1 rfl (Nat.le_of_ble_eq_true rfl) dX7_passes_5 ⟨Nat.zero_le _, Nat.zero_le _⟩) hE (fun H locs hE => ?_)
  refine lv_if_eq (tgt := 20) hx hb dX7_passes_8 (by decide) (fun c10003 => ?_) (fun c10003 => ?_)
  · have h := zif c10003 h
    refine zr_ldc S qc_X7_68 dX7_passes_20 ?_
    exact zr_iret S hE hr hlk h dX7_passes_22
  · have h := zif' c10003 h
    refine lv_iload_n hx hb dX7_passes_11 rfl (lv_at hl 2 rfl) ?_
    refine lv_iconst (v := 0) hx hb dX7_passes_12 (by decide) ?_
    refine lv_iconst (v := 5) hx hb dX7_passes_13 (by decide) ?_
    obtain ⟨x10004, w10005, ew10005, h⟩ := zbd2E h
    refine zr_i (zr_runS (As := [.int a2, .int 0, .int 5]) S hX hE (kX7_within l D tc lo ad fr zq a2 0 5 w10002 x10004 w10005 ew10005) zyX7_within qm_X7_61 ⟨rfl, rfl⟩ ⟨Nat.le_of_ble_eq_true rfl, Nat.le_of_ble_eq_true rfl⟩ rfl hl.1 rfl (Nat.le_of_ble_eq_true rfl) dX7_passes_14 ⟨Nat.zero_le _, Nat.zero_le _⟩) hE (fun H locs hE => ?_)
    refine lv_if_ne (tgt := 23) hx hb dX7_passes_17 (by decide) (fun c10006 => ?_) (fun c10006 => ?_)
    · have h := zif' c10006 h
      refine lv_aload_n hx hb dX7_passes_23 rfl (lv_at hl 0 rfl) ?_
      refine zr_getA S hK hE zcl_X7 (zc_0 w10005) 0 (Nat.le_of_ble_eq_true rfl) (q := 1) rfl qf_X7_10 dX7_passes_24 ?_
      refine zr_getA S hK hE zcl_X6 (zcW0 zW1 w10005) 5 (Nat.le_of_ble_eq_true rfl) (q := 1 + 6) rfl qf_X7_100 dX7_passes_27 ?_
      refine lv_iload_n hx hb dX7_passes_30 rfl (lv_at hl 1 rfl) ?_
      obtain ⟨x10007, ex10007, h⟩ := zbdE h
      refine zr_lald S hK hE (zcW6 zW1 w10005) dX7_passes_31 ex10007 ?_
      refine lv_iload_n hx hb dX7_passes_32 rfl (lv_at hl 2 rfl) ?_
      obtain ⟨x10008, w10009, ew10009, h⟩ := zbd2E h
      refine zr_i (zr_runS (As := [.long x10007, .int a2]) S hX hE (kX0_columnsIn l D tc lo ad fr zq x10007 a2 w10005 x10008 w10009 ew10009) zyX0_columnsIn qm_X7_132 ⟨rfl, rfl⟩ ⟨Nat.le_of_ble_eq_true rfl, Nat.le_of_ble_eq_true rfl⟩ rfl hl.1 rfl (Nat.le_of_ble_eq_true rfl) dX7_passes_33 ⟨Nat.zero_le _, Nat.zero_le _⟩) hE (fun H locs hE => ?_)
      exact zr_iret S hE hr hlk h dX7_passes_36
    · have h := zif c10006 h
      refine zr_ldc S qc_X7_68 dX7_passes_20 ?_
      exact zr_iret S hE hr hlk h dX7_passes_22
set_option maxHeartbeats 4000000 in
set_option maxRecDepth 100000 in
theorem kX7_pour (l : Launch) (D : va_G) (tc : Nat → ClassId) (lo : Nat) (ad : Nat → Nat) (fr : va_W) (zq : zz_Q) (a1 : Int32) (w : zz_W) (r : Int32) (w_ : zz_W) (h : fX7_pour a1 w = some (r, w_)) : zMi l yX7_pour cX7_pour 6 (some .int) { frames := 2, cells := 0, slots := 0, locals := 43 } D tc lo ad zshC znnC fr zq [.ref (ad 0), .int a1] w r w_ := by
  refine zr_entry (by decide) (Nat.le_of_ble_eq_true rfl) fun p e s m args below meth c ls S hX hr hlk hE hl => ?_
  have S : CallFix p m c cX7_pour 6 s args (Cond.code yX7_pour cX7_pour 6 (some .int) :: zw_tb) RX7 := S
  have hx := S.1
  have hb := S.2.1
  have hK := hX.2.1
  have hl : lv_has ls 6 [(0, .ref (ad 0)), (1, .int a1)] := hl
  unfold fX7_pour at h
  have L32 : ∀ (n : Nat) (l2 : Nat) (l3 : Int32) (l4 : Int32) (w : zz_W) (ls : Array Slot) (H : Heap) (locs : List Loc), fX7_pour_32 a1 n l2 l3 l4 w = some (r, w_) → lv_has ls 6 [(0, .ref (ad 0)), (2, .ref (ad l2)), (3, .int l3), (4, .int l4)] → zE D tc lo ad zshC znnC fr w s.heap H locs → W p l e { frames := 2, cells := 0, slots := 0, locals := 43 } s m args below meth c H locs 0 0 (zZi D tc lo ad zshC znnC fr below args s r w_) (F0 m 32 ls []) := by
    intro n32
    induction n32 with
    | zero => intro l2 l3 l4 w ls H locs h hl hE; rw [fX7_pour_32] at h; cases h
    | succ n32 ih32 =>
      intro l2 l3 l4 w ls H locs h hl hE
      rw [fX7_pour_32] at h
      obtain ⟨hgl2, h⟩ := zgrdE h
      refine lv_iload hx hb dX7_pour_32 (lv_at hl 3 rfl) ?_
      refine lv_aload_n hx hb dX7_pour_34 rfl (lv_at hl 0 rfl) ?_
      refine zr_getA S hK hE zcl_X7 (zc_0 w) 0 (Nat.le_of_ble_eq_true rfl) (q := 1) rfl qf_X7_10 dX7_pour_35 ?_
      obtain ⟨x51, ex51, h⟩ := zbdE h
      refine zr_getI S hK hE zcl_X6 (zcW0 zW1 w) 9 (Nat.le_of_ble_eq_true rfl) rfl qf_X7_69 dX7_pour_38 ex51 ?_
      refine lv_icmp_ge (tgt := 110) hx hb dX7_pour_41 (by decide) (fun c52 => ?_) (fun c52 => ?_)
      · have h := zif c52 h
        refine lv_iload_n hx hb dX7_pour_110 rfl (lv_at hl 2 rfl) ?_
        exact zr_iret S hE hr hlk h dX7_pour_111
      · have h := zif' c52 h
        refine lv_iload hx hb dX7_pour_44 (lv_at hl 3 rfl) ?_
        refine lv_aload_n hx hb dX7_pour_46 rfl (lv_at hl 1 rfl) ?_
        obtain ⟨x53, ex53, h⟩ := zbdE h
        refine zr_getI S hK hE zcl_X2 (zcS0 hgl2 w) 2 (Nat.le_of_ble_eq_true rfl) rfl qf_X7_305 dX7_pour_47 ex53 ?_
        refine lv_icmp_ge (tgt := 110) hx hb dX7_pour_50 (by decide) (fun c54 => ?_) (fun c54 => ?_)
        · have h := zif c54 h
          refine lv_iload_n hx hb dX7_pour_110 rfl (lv_at hl 2 rfl) ?_
          exact zr_iret S hE hr hlk h dX7_pour_111
        · have h := zif' c54 h
          refine lv_aload_n hx hb dX7_pour_53 rfl (lv_at hl 1 rfl) ?_
          refine lv_iload hx hb dX7_pour_54 (lv_at hl 3 rfl) ?_
          obtain ⟨x55, w56, ew56, h⟩ := zbd2E h
          refine zr_i (zr_runV (As := [.int l4]) S hX hE (kX2_isNumber l D tc lo ad fr zq l2 l4 w x55 w56 ew56) zyX2_isNumber qm_X7_308 zcl_X2 rfl (zcS0 hgl2 w) ⟨rfl, rfl⟩ ⟨Nat.le_of_ble_eq_true rfl, Nat.le_of_ble_eq_true rfl⟩ rfl hl.1 rfl (Nat.le_of_ble_eq_true rfl) dX7_pour_56 ⟨Nat.zero_le _, Nat.zero_le _⟩) hE (fun H locs hE => ?_)
          refine lv_if_eq (tgt := 104) hx hb dX7_pour_59 (by decide) (fun c57 => ?_) (fun c57 => ?_)
          · have h := zif c57 h
            obtain ⟨x58, ex58, h⟩ := zbdE h
            refine lv_iinc (v := x58) (lv' := [(4, .int x58), (0, .ref (ad 0)), (2, .ref (ad l2)), (3, .int l3)]) hx hb dX7_pour_104 hl (k := 3) rfl (zinc (k := 1) (by decide) ex58) (by decide) rfl (fun ls hl => ?_)
            refine lv_goto (tgt := 32) hx hb dX7_pour_107 (by decide) ?_
            exact ih32 l2 l3 x58 w56 ls _ _ h (lv_sub hl [1, 2, 3, 0] rfl) hE
          · have h := zif' c57 h
            refine lv_aload_n hx hb dX7_pour_62 rfl (lv_at hl 1 rfl) ?_
            refine zr_getA S hK hE zcl_X2 (zcS0 hgl2 w56) 0 (Nat.le_of_ble_eq_true rfl) (q := l2 + 1) rfl qf_X7_301 dX7_pour_63 ?_
            refine lv_iload hx hb dX7_pour_66 (lv_at hl 3 rfl) ?_
            obtain ⟨x59, ex59, h⟩ := zbdE h
            refine zr_iald S hK hE (zcS1 hgl2 w56) dX7_pour_68 ex59 ?_
            refine lv_iconst (v := 1) hx hb dX7_pour_69 (by decide) ?_
            refine lv_bipush (v := 99) hx hb dX7_pour_70 (by decide) ?_
            obtain ⟨x60, w61, ew61, h⟩ := zbd2E h
            refine zr_i (zr_runS (As := [.int x59, .int 1, .int 99]) S hX hE (kX7_held l D tc lo ad fr zq x59 1 99 w56 x60 w61 ew61) zyX7_held qm_X7_311 ⟨rfl, rfl⟩ ⟨Nat.le_of_ble_eq_true rfl, Nat.le_of_ble_eq_true rfl⟩ rfl hl.1 rfl (Nat.le_of_ble_eq_true rfl) dX7_pour_72 ⟨Nat.zero_le _, Nat.zero_le _⟩) hE (fun H locs hE => ?_)
            refine lv_istore (lv' := [(5, .int x60), (0, .ref (ad 0)), (2, .ref (ad l2)), (3, .int l3), (4, .int l4)]) hx hb dX7_pour_75 hl (by decide) rfl (fun ls hl => ?_)
            refine lv_iload_n hx hb dX7_pour_77 rfl (lv_at hl 3 rfl) ?_
            refine lv_aload_n hx hb dX7_pour_78 rfl (lv_at hl 1 rfl) ?_
            refine zr_getA S hK hE zcl_X7 (zc_0 w61) 0 (Nat.le_of_ble_eq_true rfl) (q := 1) rfl qf_X7_10 dX7_pour_79 ?_
            refine zr_getA S hK hE zcl_X6 (zcW0 zW1 w61) 2 (Nat.le_of_ble_eq_true rfl) (q := 1 + 3) rfl qf_X7_87 dX7_pour_82 ?_
            refine lv_iload hx hb dX7_pour_85 (lv_at hl 4 rfl) ?_
            refine lv_iload hx hb dX7_pour_87 (lv_at hl 0 rfl) ?_
            obtain ⟨x62, w63, ew63, h⟩ := zbd2E h
            refine zr_i (zr_runS (As := [.ref (ad (1 + 3)), .int l4, .int x60]) S hX hE (kX7_exchange l D tc lo ad fr zq (1 + 3) l4 x60 w61 x62 w63 ew63) zyX7_exchange qm_X7_128 ⟨rfl, rfl⟩ ⟨Nat.le_of_ble_eq_true rfl, Nat.le_of_ble_eq_true rfl⟩ rfl hl.1 rfl (Nat.le_of_ble_eq_true rfl) dX7_pour_89 ⟨Nat.zero_le _, Nat.zero_le _⟩) hE (fun H locs hE => ?_)
            refine lv_iload hx hb dX7_pour_92 (lv_at hl 0 rfl) ?_
            refine lv_icmp_ne (tgt := 101) hx hb dX7_pour_94 (by decide) (fun c64 => ?_) (fun c64 => ?_)
            · have h := zif' c64 h
              refine lv_iconst (v := 1) hx hb dX7_pour_101 (by decide) ?_
              refine lv_iadd hx hb dX7_pour_102 ?_
              obtain ⟨x65, ex65, h⟩ := zbdE h
              refine zr_topi ex65 ?_
              refine lv_istore_n (lv' := [(3, .int x65), (5, .int x60), (0, .ref (ad 0)), (2, .ref (ad l2)), (4, .int l4)]) hx hb dX7_pour_103 rfl hl (by decide) rfl (fun ls hl => ?_)
              obtain ⟨x66, ex66, h⟩ := zbdE h
              refine lv_iinc (v := x66) (lv' := [(4, .int x66), (3, .int x65), (5, .int x60), (0, .ref (ad 0)), (2, .ref (ad l2))]) hx hb dX7_pour_104 hl (k := 4) rfl (zinc (k := 1) (by decide) ex66) (by decide) rfl (fun ls hl => ?_)
              refine lv_goto (tgt := 32) hx hb dX7_pour_107 (by decide) ?_
              exact ih32 l2 x65 x66 w63 ls _ _ h (lv_sub hl [3, 4, 1, 0] rfl) hE
            · have h := zif c64 h
              refine lv_iconst (v := 0) hx hb dX7_pour_97 (by decide) ?_
              refine lv_goto (tgt := 102) hx hb dX7_pour_98 (by decide) ?_
              refine lv_iadd hx hb dX7_pour_102 ?_
              obtain ⟨x67, ex67, h⟩ := zbdE h
              refine zr_topi ex67 ?_
              refine lv_istore_n (lv' := [(3, .int x67), (5, .int x60), (0, .ref (ad 0)), (2, .ref (ad l2)), (4, .int l4)]) hx hb dX7_pour_103 rfl hl (by decide) rfl (fun ls hl => ?_)
              obtain ⟨x68, ex68, h⟩ := zbdE h
              refine lv_iinc (v := x68) (lv' := [(4, .int x68), (3, .int x67), (5, .int x60), (0, .ref (ad 0)), (2, .ref (ad l2))]) hx hb dX7_pour_104 hl (k := 4) rfl (zinc (k := 1) (by decide) ex68) (by decide) rfl (fun ls hl => ?_)
              refine lv_goto (tgt := 32) hx hb dX7_pour_107 (by decide) ?_
              exact ih32 l2 x67 x68 w63 ls _ _ h (lv_sub hl [3, 4, 1, 0] rfl) hE
  refine lv_iload_n hx hb dX7_pour_0 rfl (lv_at hl 1 rfl) ?_
  obtain ⟨x10001, w10002, ew10002, h⟩ := zbd2E h
  refine zr_i (zr_runS (As := [.int a1]) S hX hE (kX7_isSheet l D tc lo ad fr zq a1 w x10001 w10002 ew10002) zyX7_isSheet qm_X7_203 ⟨rfl, rfl⟩ ⟨Nat.le_of_ble_eq_true rfl, Nat.le_of_ble_eq_true rfl⟩ rfl hl.1 rfl (Nat.le_of_ble_eq_true rfl) dX7_pour_1 ⟨Nat.zero_le _, Nat.zero_le _⟩) hE (fun H locs hE => ?_)
  refine lv_if_ne (tgt := 10) hx hb dX7_pour_4 (by decide) (fun c10003 => ?_) (fun c10003 => ?_)
  · have h := zif' c10003 h
    refine lv_aload_n hx hb dX7_pour_10 rfl (lv_at hl 0 rfl) ?_
    refine zr_getA S hK hE zcl_X7 (zc_0 w10002) 5 (Nat.le_of_ble_eq_true rfl) (q := 39) rfl qf_X7_38 dX7_pour_11 ?_
    refine lv_iload_n hx hb dX7_pour_14 rfl (lv_at hl 1 rfl) ?_
    obtain ⟨q10004, eq10004, h⟩ := zbdE h
    refine zr_aald4 S hK hE (zc_39 w10002) dX7_pour_15 eq10004 ?_
    refine lv_astore_n (lv' := [(2, .ref (ad q10004)), (0, .ref (ad 0)), (1, .int a1)]) hx hb dX7_pour_16 rfl hl (by decide) rfl (fun ls hl => ?_)
    refine lv_aload_n hx hb dX7_pour_17 rfl (lv_at hl 0 rfl) ?_
    obtain ⟨x10005, w10006, ew10006, h⟩ := zbd2E h
    refine zr_i (zr_runV (As := []) S hX hE (kX2_isMissing l D tc lo ad fr zq q10004 w10002 x10005 w10006 ew10006) zyX2_isMissing qm_X7_234 zcl_X2 rfl (zcS0 (zq4_S eq10004) w10002) ⟨rfl, rfl⟩ ⟨Nat.le_of_ble_eq_true rfl, Nat.le_of_ble_eq_true rfl⟩ rfl hl.1 rfl (Nat.le_of_ble_eq_true rfl) dX7_pour_18 ⟨Nat.zero_le _, Nat.zero_le _⟩) hE (fun H locs hE => ?_)
    refine lv_if_eq (tgt := 27) hx hb dX7_pour_21 (by decide) (fun c10007 => ?_) (fun c10007 => ?_)
    · have h := zif c10007 h
      refine lv_iconst (v := 0) hx hb dX7_pour_27 (by decide) ?_
      refine lv_istore_n (lv' := [(3, .int 0), (2, .ref (ad q10004)), (0, .ref (ad 0)), (1, .int a1)]) hx hb dX7_pour_28 rfl hl (by decide) rfl (fun ls hl => ?_)
      refine lv_iconst (v := 0) hx hb dX7_pour_29 (by decide) ?_
      refine lv_istore (lv' := [(4, .int 0), (3, .int 0), (2, .ref (ad q10004)), (0, .ref (ad 0)), (1, .int a1)]) hx hb dX7_pour_30 hl (by decide) rfl (fun ls hl => ?_)
      exact L32 zfuel q10004 0 0 w10006 ls _ _ h (lv_sub hl [3, 2, 1, 0] rfl) hE
    · have h := zif' c10007 h
      refine zr_ldc S qc_X7_237 dX7_pour_24 ?_
      exact zr_iret S hE hr hlk h dX7_pour_26
  · have h := zif c10003 h
    refine zr_ldc S qc_X7_68 dX7_pour_7 ?_
    exact zr_iret S hE hr hlk h dX7_pour_9
set_option maxHeartbeats 4000000 in
set_option maxRecDepth 100000 in
theorem kX7_probe (l : Launch) (D : va_G) (tc : Nat → ClassId) (lo : Nat) (ad : Nat → Nat) (fr : va_W) (zq : zz_Q) (a1 : Int32) (a2 : Int32) (w : zz_W) (r : Int32) (w_ : zz_W) (h : fX7_probe a1 a2 w = some (r, w_)) : zMi l yX7_probe cX7_probe 3 (some .int) { frames := 4, cells := 0, slots := 0, locals := 96 } D tc lo ad zshC znnC fr zq [.ref (ad 0), .int a1, .int a2] w r w_ := by
  refine zr_entry (by decide) (Nat.le_of_ble_eq_true rfl) fun p e s m args below meth c ls S hX hr hlk hE hl => ?_
  have S : CallFix p m c cX7_probe 3 s args (Cond.code yX7_probe cX7_probe 3 (some .int) :: zw_tb) RX7 := S
  have hx := S.1
  have hb := S.2.1
  have hK := hX.2.1
  have hl : lv_has ls 3 [(0, .ref (ad 0)), (1, .int a1), (2, .int a2)] := hl
  unfold fX7_probe at h
  refine lv_iload_n hx hb dX7_probe_0 rfl (lv_at hl 1 rfl) ?_
  obtain ⟨x10001, w10002, ew10002, h⟩ := zbd2E h
  refine zr_i (zr_runS (As := [.int a1]) S hX hE (kX7_isSort l D tc lo ad fr zq a1 w x10001 w10002 ew10002) zyX7_isSort qm_X7_136 ⟨rfl, rfl⟩ ⟨Nat.le_of_ble_eq_true rfl, Nat.le_of_ble_eq_true rfl⟩ rfl hl.1 rfl (Nat.le_of_ble_eq_true rfl) dX7_probe_1 ⟨Nat.zero_le _, Nat.zero_le _⟩) hE (fun H locs hE => ?_)
  refine lv_if_eq (tgt := 14) hx hb dX7_probe_4 (by decide) (fun c10003 => ?_) (fun c10003 => ?_)
  · have h := zif c10003 h
    refine zr_ldc S qc_X7_68 dX7_probe_14 ?_
    exact zr_iret S hE hr hlk h dX7_probe_16
  · have h := zif' c10003 h
    refine lv_iload_n hx hb dX7_probe_7 rfl (lv_at hl 2 rfl) ?_
    obtain ⟨x10004, w10005, ew10005, h⟩ := zbd2E h
    refine zr_i (zr_runS (As := [.int a2]) S hX hE (kX7_isCell l D tc lo ad fr zq a2 w10002 x10004 w10005 ew10005) zyX7_isCell qm_X7_58 ⟨rfl, rfl⟩ ⟨Nat.le_of_ble_eq_true rfl, Nat.le_of_ble_eq_true rfl⟩ rfl hl.1 rfl (Nat.le_of_ble_eq_true rfl) dX7_probe_8 ⟨Nat.zero_le _, Nat.zero_le _⟩) hE (fun H locs hE => ?_)
    refine lv_if_ne (tgt := 17) hx hb dX7_probe_11 (by decide) (fun c10006 => ?_) (fun c10006 => ?_)
    · have h := zif' c10006 h
      refine lv_aload_n hx hb dX7_probe_17 rfl (lv_at hl 0 rfl) ?_
      refine zr_getA S hK hE zcl_X7 (zc_0 w10005) 0 (Nat.le_of_ble_eq_true rfl) (q := 1) rfl qf_X7_10 dX7_probe_18 ?_
      obtain ⟨x10007, w10008, ew10008, h⟩ := zbd2E h
      refine zr_i (zr_runV (As := []) S hX hE (kX6_isBuilt l D tc lo ad fr zq 1 w10005 x10007 w10008 ew10008) zyX6_isBuilt qm_X7_164 zcl_X6 rfl (zcW0 zW1 w10005) ⟨rfl, rfl⟩ ⟨Nat.le_of_ble_eq_true rfl, Nat.le_of_ble_eq_true rfl⟩ rfl hl.1 rfl (Nat.le_of_ble_eq_true rfl) dX7_probe_21 ⟨Nat.zero_le _, Nat.zero_le _⟩) hE (fun H locs hE => ?_)
      refine lv_if_eq (tgt := 39) hx hb dX7_probe_24 (by decide) (fun c10009 => ?_) (fun c10009 => ?_)
      · have h := zif c10009 h
        refine zr_ldc S qc_X7_160 dX7_probe_39 ?_
        exact zr_iret S hE hr hlk h dX7_probe_41
      · have h := zif' c10009 h
        refine lv_aload_n hx hb dX7_probe_27 rfl (lv_at hl 0 rfl) ?_
        refine zr_getA S hK hE zcl_X7 (zc_0 w10008) 0 (Nat.le_of_ble_eq_true rfl) (q := 1) rfl qf_X7_10 dX7_probe_28 ?_
        refine lv_iload_n hx hb dX7_probe_31 rfl (lv_at hl 1 rfl) ?_
        refine lv_iload_n hx hb dX7_probe_32 rfl (lv_at hl 2 rfl) ?_
        obtain ⟨x10010, w10011, ew10011, h⟩ := zbd2E h
        refine zr_i (zr_runV (As := [.int a1, .int a2]) S hX hE (kX6_testAt l D tc lo ad fr zq 1 a1 a2 w10008 x10010 w10011 ew10011) zyX6_testAt qm_X7_168 zcl_X6 rfl (zcW0 zW1 w10008) ⟨rfl, rfl⟩ ⟨Nat.le_of_ble_eq_true rfl, Nat.le_of_ble_eq_true rfl⟩ rfl hl.1 rfl (Nat.le_of_ble_eq_true rfl) dX7_probe_33 ⟨Nat.zero_le _, Nat.zero_le _⟩) hE (fun H locs hE => ?_)
        refine lv_goto (tgt := 41) hx hb dX7_probe_36 (by decide) ?_
        exact zr_iret S hE hr hlk h dX7_probe_41
    · have h := zif c10006 h
      refine zr_ldc S qc_X7_68 dX7_probe_14 ?_
      exact zr_iret S hE hr hlk h dX7_probe_16
