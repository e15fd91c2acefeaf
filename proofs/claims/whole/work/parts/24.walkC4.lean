set_option maxHeartbeats 4000000 in
set_option maxRecDepth 100000 in
theorem kX7_reads (l : Launch) (D : va_G) (tc : Nat → ClassId) (lo : Nat) (ad : Nat → Nat) (fr : va_W) (zq : zz_Q) (a1 : Int32) (w : zz_W) (r : Int32) (w_ : zz_W) (h : fX7_reads a1 w = some (r, w_)) : zMi l yX7_reads cX7_reads 4 (some .int) { frames := 2, cells := 0, slots := 0, locals := 43 } D tc lo ad zshC znnC fr zq [.ref (ad 0), .int a1] w r w_ := by
  refine zr_entry (by decide) (Nat.le_of_ble_eq_true rfl) fun p e s m args below meth c ls S hX hr hlk hE hl => ?_
  have S : CallFix p m c cX7_reads 4 s args (Cond.code yX7_reads cX7_reads 4 (some .int) :: zw_tb) RX7 := S
  have hx := S.1
  have hb := S.2.1
  have hK := hX.2.1
  have hl : lv_has ls 4 [(0, .ref (ad 0)), (1, .int a1)] := hl
  unfold fX7_reads at h
  have L29 : ∀ (n : Nat) (l2 : Nat) (l3 : Int32) (w : zz_W) (ls : Array Slot) (H : Heap) (locs : List Loc), fX7_reads_29 a1 n l2 l3 w = some (r, w_) → lv_has ls 4 [(0, .ref (ad 0)), (2, .ref (ad l2)), (3, .int l3)] → zE D tc lo ad zshC znnC fr w s.heap H locs → W p l e { frames := 2, cells := 0, slots := 0, locals := 43 } s m args below meth c H locs 0 0 (zZi D tc lo ad zshC znnC fr below args s r w_) (F0 m 29 ls []) := by
    intro n29
    induction n29 with
    | zero => intro l2 l3 w ls H locs h hl hE; rw [fX7_reads_29] at h; cases h
    | succ n29 ih29 =>
      intro l2 l3 w ls H locs h hl hE
      rw [fX7_reads_29] at h
      obtain ⟨hgl2, h⟩ := zgrdE h
      refine lv_iload_n hx hb dX7_reads_29 rfl (lv_at hl 2 rfl) ?_
      refine lv_aload_n hx hb dX7_reads_30 rfl (lv_at hl 1 rfl) ?_
      obtain ⟨x41, ex41, h⟩ := zbdE h
      refine zr_getI S hK hE zcl_X2 (zcS0 hgl2 w) 2 (Nat.le_of_ble_eq_true rfl) rfl qf_X7_305 dX7_reads_31 ex41 ?_
      refine lv_icmp_ge (tgt := 82) hx hb dX7_reads_34 (by decide) (fun c42 => ?_) (fun c42 => ?_)
      · have h := zif c42 h
        refine zr_ldc S qc_X7_184 dX7_reads_82 ?_
        exact zr_iret S hE hr hlk h dX7_reads_84
      · have h := zif' c42 h
        refine lv_aload_n hx hb dX7_reads_37 rfl (lv_at hl 1 rfl) ?_
        refine lv_iload_n hx hb dX7_reads_38 rfl (lv_at hl 2 rfl) ?_
        obtain ⟨x43, w44, ew44, h⟩ := zbd2E h
        refine zr_i (zr_runV (As := [.int l3]) S hX hE (kX2_isNumber l D tc lo ad fr zq l2 l3 w x43 w44 ew44) zyX2_isNumber qm_X7_308 zcl_X2 rfl (zcS0 hgl2 w) ⟨rfl, rfl⟩ ⟨Nat.le_of_ble_eq_true rfl, Nat.le_of_ble_eq_true rfl⟩ rfl hl.1 rfl (Nat.le_of_ble_eq_true rfl) dX7_reads_39 ⟨Nat.zero_le _, Nat.zero_le _⟩) hE (fun H locs hE => ?_)
        refine lv_if_eq (tgt := 76) hx hb dX7_reads_42 (by decide) (fun c45 => ?_) (fun c45 => ?_)
        · have h := zif c45 h
          obtain ⟨x46, ex46, h⟩ := zbdE h
          refine lv_iinc (v := x46) (lv' := [(3, .int x46), (0, .ref (ad 0)), (2, .ref (ad l2))]) hx hb dX7_reads_76 hl (k := 2) rfl (zinc (k := 1) (by decide) ex46) (by decide) rfl (fun ls hl => ?_)
          refine lv_goto (tgt := 29) hx hb dX7_reads_79 (by decide) ?_
          exact ih29 l2 x46 w44 ls _ _ h (lv_sub hl [1, 2, 0] rfl) hE
        · have h := zif' c45 h
          refine lv_aload_n hx hb dX7_reads_45 rfl (lv_at hl 0 rfl) ?_
          refine zr_getA S hK hE zcl_X7 (zc_0 w44) 0 (Nat.le_of_ble_eq_true rfl) (q := 1) rfl qf_X7_10 dX7_reads_46 ?_
          refine lv_iload_n hx hb dX7_reads_49 rfl (lv_at hl 2 rfl) ?_
          obtain ⟨x47, w48, ew48, h⟩ := zbd2E h
          refine zr_i (zr_runV (As := [.int l3]) S hX hE (kX6_isRun l D tc lo ad fr zq 1 l3 w44 x47 w48 ew48) zyX6_isRun qm_X7_78 zcl_X6 rfl (zcW0 zW1 w44) ⟨rfl, rfl⟩ ⟨Nat.le_of_ble_eq_true rfl, Nat.le_of_ble_eq_true rfl⟩ rfl hl.1 rfl (Nat.le_of_ble_eq_true rfl) dX7_reads_50 ⟨Nat.zero_le _, Nat.zero_le _⟩) hE (fun H locs hE => ?_)
          refine lv_if_eq (tgt := 74) hx hb dX7_reads_53 (by decide) (fun c49 => ?_) (fun c49 => ?_)
          · have h := zif c49 h
            refine lv_iload_n hx hb dX7_reads_74 rfl (lv_at hl 2 rfl) ?_
            exact zr_iret S hE hr hlk h dX7_reads_75
          · have h := zif' c49 h
            refine lv_aload_n hx hb dX7_reads_56 rfl (lv_at hl 1 rfl) ?_
            refine zr_getA S hK hE zcl_X2 (zcS0 hgl2 w48) 0 (Nat.le_of_ble_eq_true rfl) (q := l2 + 1) rfl qf_X7_301 dX7_reads_57 ?_
            refine lv_iload_n hx hb dX7_reads_60 rfl (lv_at hl 2 rfl) ?_
            obtain ⟨x50, ex50, h⟩ := zbdE h
            refine zr_iald S hK hE (zcS1 hgl2 w48) dX7_reads_61 ex50 ?_
            refine lv_aload_n hx hb dX7_reads_62 rfl (lv_at hl 0 rfl) ?_
            refine zr_getA S hK hE zcl_X7 (zc_0 w48) 0 (Nat.le_of_ble_eq_true rfl) (q := 1) rfl qf_X7_10 dX7_reads_63 ?_
            refine zr_getA S hK hE zcl_X6 (zcW0 zW1 w48) 3 (Nat.le_of_ble_eq_true rfl) (q := 1 + 4) rfl qf_X7_90 dX7_reads_66 ?_
            refine lv_iload_n hx hb dX7_reads_69 rfl (lv_at hl 2 rfl) ?_
            obtain ⟨x51, ex51, h⟩ := zbdE h
            refine zr_iald S hK hE (zcW4 zW1 w48) dX7_reads_70 ex51 ?_
            refine lv_icmp_eq (tgt := 76) hx hb dX7_reads_71 (by decide) (fun c52 => ?_) (fun c52 => ?_)
            · have h := zif c52 h
              obtain ⟨x53, ex53, h⟩ := zbdE h
              refine lv_iinc (v := x53) (lv' := [(3, .int x53), (0, .ref (ad 0)), (2, .ref (ad l2))]) hx hb dX7_reads_76 hl (k := 2) rfl (zinc (k := 1) (by decide) ex53) (by decide) rfl (fun ls hl => ?_)
              refine lv_goto (tgt := 29) hx hb dX7_reads_79 (by decide) ?_
              exact ih29 l2 x53 w48 ls _ _ h (lv_sub hl [1, 2, 0] rfl) hE
            · have h := zif' c52 h
              refine lv_iload_n hx hb dX7_reads_74 rfl (lv_at hl 2 rfl) ?_
              exact zr_iret S hE hr hlk h dX7_reads_75
  refine lv_iload_n hx hb dX7_reads_0 rfl (lv_at hl 1 rfl) ?_
  obtain ⟨x10001, w10002, ew10002, h⟩ := zbd2E h
  refine zr_i (zr_runS (As := [.int a1]) S hX hE (kX7_isSheet l D tc lo ad fr zq a1 w x10001 w10002 ew10002) zyX7_isSheet qm_X7_203 ⟨rfl, rfl⟩ ⟨Nat.le_of_ble_eq_true rfl, Nat.le_of_ble_eq_true rfl⟩ rfl hl.1 rfl (Nat.le_of_ble_eq_true rfl) dX7_reads_1 ⟨Nat.zero_le _, Nat.zero_le _⟩) hE (fun H locs hE => ?_)
  refine lv_if_ne (tgt := 10) hx hb dX7_reads_4 (by decide) (fun c10003 => ?_) (fun c10003 => ?_)
  · have h := zif' c10003 h
    refine lv_aload_n hx hb dX7_reads_10 rfl (lv_at hl 0 rfl) ?_
    refine zr_getA S hK hE zcl_X7 (zc_0 w10002) 5 (Nat.le_of_ble_eq_true rfl) (q := 39) rfl qf_X7_38 dX7_reads_11 ?_
    refine lv_iload_n hx hb dX7_reads_14 rfl (lv_at hl 1 rfl) ?_
    obtain ⟨q10004, eq10004, h⟩ := zbdE h
    refine zr_aald4 S hK hE (zc_39 w10002) dX7_reads_15 eq10004 ?_
    refine lv_astore_n (lv' := [(2, .ref (ad q10004)), (0, .ref (ad 0)), (1, .int a1)]) hx hb dX7_reads_16 rfl hl (by decide) rfl (fun ls hl => ?_)
    refine lv_aload_n hx hb dX7_reads_17 rfl (lv_at hl 0 rfl) ?_
    obtain ⟨x10005, w10006, ew10006, h⟩ := zbd2E h
    refine zr_i (zr_runV (As := []) S hX hE (kX2_isMissing l D tc lo ad fr zq q10004 w10002 x10005 w10006 ew10006) zyX2_isMissing qm_X7_234 zcl_X2 rfl (zcS0 (zq4_S eq10004) w10002) ⟨rfl, rfl⟩ ⟨Nat.le_of_ble_eq_true rfl, Nat.le_of_ble_eq_true rfl⟩ rfl hl.1 rfl (Nat.le_of_ble_eq_true rfl) dX7_reads_18 ⟨Nat.zero_le _, Nat.zero_le _⟩) hE (fun H locs hE => ?_)
    refine lv_if_eq (tgt := 27) hx hb dX7_reads_21 (by decide) (fun c10007 => ?_) (fun c10007 => ?_)
    · have h := zif c10007 h
      refine lv_iconst (v := 0) hx hb dX7_reads_27 (by decide) ?_
      refine lv_istore_n (lv' := [(3, .int 0), (2, .ref (ad q10004)), (0, .ref (ad 0)), (1, .int a1)]) hx hb dX7_reads_28 rfl hl (by decide) rfl (fun ls hl => ?_)
      exact L29 zfuel q10004 0 w10006 ls _ _ h (lv_sub hl [2, 1, 0] rfl) hE
    · have h := zif' c10007 h
      refine zr_ldc S qc_X7_237 dX7_reads_24 ?_
      exact zr_iret S hE hr hlk h dX7_reads_26
  · have h := zif c10003 h
    refine zr_ldc S qc_X7_68 dX7_reads_7 ?_
    exact zr_iret S hE hr hlk h dX7_reads_9
set_option maxHeartbeats 4000000 in
set_option maxRecDepth 100000 in
theorem kX7_rest (l : Launch) (D : va_G) (tc : Nat → ClassId) (lo : Nat) (ad : Nat → Nat) (fr : va_W) (zq : zz_Q) (a1 : Int32) (a2 : Int32) (w : zz_W) (r : Int32) (w_ : zz_W) (h : fX7_rest a1 a2 w = some (r, w_)) : zMi l yX7_rest cX7_rest 4 (some .int) { frames := 2, cells := 0, slots := 0, locals := 42 } D tc lo ad zshC znnC fr zq [.ref (ad 0), .int a1, .int a2] w r w_ := by
  refine zr_entry (by decide) (Nat.le_of_ble_eq_true rfl) fun p e s m args below meth c ls S hX hr hlk hE hl => ?_
  have S : CallFix p m c cX7_rest 4 s args (Cond.code yX7_rest cX7_rest 4 (some .int) :: zw_tb) RX7 := S
  have hx := S.1
  have hb := S.2.1
  have hK := hX.2.1
  have hl : lv_has ls 4 [(0, .ref (ad 0)), (1, .int a1), (2, .int a2)] := hl
  unfold fX7_rest at h
  refine lv_iload_n hx hb dX7_rest_0 rfl (lv_at hl 1 rfl) ?_
  obtain ⟨x10001, w10002, ew10002, h⟩ := zbd2E h
  refine zr_i (zr_runS (As := [.int a1]) S hX hE (kX7_isSlot l D tc lo ad fr zq a1 w x10001 w10002 ew10002) zyX7_isSlot qm_X7_323 ⟨rfl, rfl⟩ ⟨Nat.le_of_ble_eq_true rfl, Nat.le_of_ble_eq_true rfl⟩ rfl hl.1 rfl (Nat.le_of_ble_eq_true rfl) dX7_rest_1 ⟨Nat.zero_le _, Nat.zero_le _⟩) hE (fun H locs hE => ?_)
  refine lv_if_ne (tgt := 10) hx hb dX7_rest_4 (by decide) (fun c10003 => ?_) (fun c10003 => ?_)
  · have h := zif' c10003 h
    refine lv_aload_n hx hb dX7_rest_10 rfl (lv_at hl 0 rfl) ?_
    refine zr_getA S hK hE zcl_X7 (zc_0 w10002) 6 (Nat.le_of_ble_eq_true rfl) (q := 40) rfl qf_X7_44 dX7_rest_11 ?_
    refine lv_iload_n hx hb dX7_rest_14 rfl (lv_at hl 1 rfl) ?_
    obtain ⟨q10004, eq10004, h⟩ := zbdE h
    refine zr_aald5 S hK hE (zc_40 w10002) dX7_rest_15 eq10004 ?_
    refine lv_astore_n (lv' := [(3, .ref (ad q10004)), (0, .ref (ad 0)), (1, .int a1), (2, .int a2)]) hx hb dX7_rest_16 rfl hl (by decide) rfl (fun ls hl => ?_)
    refine lv_aload_n hx hb dX7_rest_17 rfl (lv_at hl 0 rfl) ?_
    obtain ⟨x10005, ex10005, h⟩ := zbdE h
    refine zr_getI S hK hE zcl_X3 (zcL0 (zq5_L eq10004) w10002) 1 (Nat.le_of_ble_eq_true rfl) rfl qf_X7_326 dX7_rest_18 ex10005 ?_
    refine lv_if_ne (tgt := 27) hx hb dX7_rest_21 (by decide) (fun c10006 => ?_) (fun c10006 => ?_)
    · have h := zif' c10006 h
      refine lv_aload_n hx hb dX7_rest_27 rfl (lv_at hl 0 rfl) ?_
      obtain ⟨x10007, ex10007, h⟩ := zbdE h
      refine zr_getI S hK hE zcl_X3 (zcL0 (zq5_L eq10004) w10002) 1 (Nat.le_of_ble_eq_true rfl) rfl qf_X7_326 dX7_rest_28 ex10007 ?_
      refine lv_iconst (v := 3) hx hb dX7_rest_31 (by decide) ?_
      refine lv_icmp_eq (tgt := 38) hx hb dX7_rest_32 (by decide) (fun c10008 => ?_) (fun c10008 => ?_)
      · have h := zif c10008 h
        refine lv_iload_n hx hb dX7_rest_38 rfl (lv_at hl 3 rfl) ?_
        refine lv_if_ne (tgt := 47) hx hb dX7_rest_39 (by decide) (fun c10009 => ?_) (fun c10009 => ?_)
        · have h := zif' c10009 h
          refine lv_aload_n hx hb dX7_rest_47 rfl (lv_at hl 0 rfl) ?_
          obtain ⟨x10010, ex10010, h⟩ := zbdE h
          refine zr_getI S hK hE zcl_X3 (zcL0 (zq5_L eq10004) w10002) 4 (Nat.le_of_ble_eq_true rfl) rfl qf_X7_341 dX7_rest_48 ex10010 ?_
          refine lv_iload_n hx hb dX7_rest_51 rfl (lv_at hl 3 rfl) ?_
          obtain ⟨x10011, ex10011, h⟩ := zbdE h
          refine zr_irem hx hb dX7_rest_52 ex10011 ?_
          exact zr_iret S hE hr hlk h dX7_rest_53
        · have h := zif c10009 h
          refine zr_ldc S qc_X7_160 dX7_rest_42 ?_
          refine lv_goto (tgt := 53) hx hb dX7_rest_44 (by decide) ?_
          exact zr_iret S hE hr hlk h dX7_rest_53
      · have h := zif' c10008 h
        refine zr_ldc S qc_X7_120 dX7_rest_35 ?_
        exact zr_iret S hE hr hlk h dX7_rest_37
    · have h := zif c10006 h
      refine zr_ldc S qc_X7_237 dX7_rest_24 ?_
      exact zr_iret S hE hr hlk h dX7_rest_26
  · have h := zif c10003 h
    refine zr_ldc S qc_X7_68 dX7_rest_7 ?_
    exact zr_iret S hE hr hlk h dX7_rest_9
set_option maxHeartbeats 4000000 in
set_option maxRecDepth 100000 in
theorem kX7_risk (l : Launch) (D : va_G) (tc : Nat → ClassId) (lo : Nat) (ad : Nat → Nat) (fr : va_W) (zq : zz_Q) (a1 : Int32) (a2 : Int32) (w : zz_W) (r : Int32) (w_ : zz_W) (h : fX7_risk a1 a2 w = some (r, w_)) : zMi l yX7_risk cX7_risk 3 (some .int) { frames := 6, cells := 0, slots := 0, locals := 144 } D tc lo ad zshC znnC fr zq [.ref (ad 0), .int a1, .int a2] w r w_ := by
  refine zr_entry (by decide) (Nat.le_of_ble_eq_true rfl) fun p e s m args below meth c ls S hX hr hlk hE hl => ?_
  have S : CallFix p m c cX7_risk 3 s args (Cond.code yX7_risk cX7_risk 3 (some .int) :: zw_tb) RX7 := S
  have hx := S.1
  have hb := S.2.1
  have hK := hX.2.1
  have hl : lv_has ls 3 [(0, .ref (ad 0)), (1, .int a1), (2, .int a2)] := hl
  unfold fX7_risk at h
  refine lv_iload_n hx hb dX7_risk_0 rfl (lv_at hl 1 rfl) ?_
  obtain ⟨x10001, w10002, ew10002, h⟩ := zbd2E h
  refine zr_i (zr_runS (As := [.int a1]) S hX hE (kX7_isCell l D tc lo ad fr zq a1 w x10001 w10002 ew10002) zyX7_isCell qm_X7_58 ⟨rfl, rfl⟩ ⟨Nat.le_of_ble_eq_true rfl, Nat.le_of_ble_eq_true rfl⟩ rfl hl.1 rfl (Nat.le_of_ble_eq_true rfl) dX7_risk_1 ⟨Nat.zero_le _, Nat.zero_le _⟩) hE (fun H locs hE => ?_)
  refine lv_if_eq (tgt := 14) hx hb dX7_risk_4 (by decide) (fun c10003 => ?_) (fun c10003 => ?_)
  · have h := zif c10003 h
    refine zr_ldc S qc_X7_68 dX7_risk_14 ?_
    exact zr_iret S hE hr hlk h dX7_risk_16
  · have h := zif' c10003 h
    refine lv_iload_n hx hb dX7_risk_7 rfl (lv_at hl 2 rfl) ?_
    obtain ⟨x10004, w10005, ew10005, h⟩ := zbd2E h
    refine zr_i (zr_runS (As := [.int a2]) S hX hE (kX7_isDepth l D tc lo ad fr zq a2 w10002 x10004 w10005 ew10005) zyX7_isDepth qm_X7_65 ⟨rfl, rfl⟩ ⟨Nat.le_of_ble_eq_true rfl, Nat.le_of_ble_eq_true rfl⟩ rfl hl.1 rfl (Nat.le_of_ble_eq_true rfl) dX7_risk_8 ⟨Nat.zero_le _, Nat.zero_le _⟩) hE (fun H locs hE => ?_)
    refine lv_if_ne (tgt := 17) hx hb dX7_risk_11 (by decide) (fun c10006 => ?_) (fun c10006 => ?_)
    · have h := zif' c10006 h
      refine lv_aload_n hx hb dX7_risk_17 rfl (lv_at hl 0 rfl) ?_
      refine zr_getA S hK hE zcl_X7 (zc_0 w10005) 0 (Nat.le_of_ble_eq_true rfl) (q := 1) rfl qf_X7_10 dX7_risk_18 ?_
      obtain ⟨x10007, ex10007, h⟩ := zbdE h
      refine zr_getI S hK hE zcl_X6 (zcW0 zW1 w10005) 9 (Nat.le_of_ble_eq_true rfl) rfl qf_X7_69 dX7_risk_21 ex10007 ?_
      refine lv_if_ne (tgt := 32) hx hb dX7_risk_24 (by decide) (fun c10008 => ?_) (fun c10008 => ?_)
      · have h := zif' c10008 h
        refine lv_aload_n hx hb dX7_risk_32 rfl (lv_at hl 0 rfl) ?_
        refine zr_getA S hK hE zcl_X7 (zc_0 w10005) 0 (Nat.le_of_ble_eq_true rfl) (q := 1) rfl qf_X7_10 dX7_risk_33 ?_
        refine lv_aload_n hx hb dX7_risk_36 rfl (lv_at hl 0 rfl) ?_
        refine zr_getA S hK hE zcl_X7 (zc_0 w10005) 0 (Nat.le_of_ble_eq_true rfl) (q := 1) rfl qf_X7_10 dX7_risk_37 ?_
        refine lv_iload_n hx hb dX7_risk_40 rfl (lv_at hl 1 rfl) ?_
        refine lv_iload_n hx hb dX7_risk_41 rfl (lv_at hl 2 rfl) ?_
        obtain ⟨x10009, w10010, ew10010, h⟩ := zbd2E h
        refine zr_l (zr_runV (As := [.int a1, .int a2]) S hX hE (kX6_lossAt l D tc lo ad fr zq 1 a1 a2 w10005 x10009 w10010 ew10010) zyX6_lossAt qm_X7_199 zcl_X6 rfl (zcW0 zW1 w10005) ⟨rfl, rfl⟩ ⟨Nat.le_of_ble_eq_true rfl, Nat.le_of_ble_eq_true rfl⟩ rfl hl.1 rfl (Nat.le_of_ble_eq_true rfl) dX7_risk_42 ⟨Nat.zero_le _, Nat.zero_le _⟩) hE (fun H locs hE => ?_)
        obtain ⟨x10011, w10012, ew10012, h⟩ := zbd2E h
        refine zr_i (zr_runV (As := [.long x10009]) S hX hE (kX6_ofThousand l D tc lo ad fr zq 1 x10009 w10010 x10011 w10012 ew10012) zyX6_ofThousand qm_X7_196 zcl_X6 rfl (zcW0 zW1 w10010) ⟨rfl, rfl⟩ ⟨Nat.le_of_ble_eq_true rfl, Nat.le_of_ble_eq_true rfl⟩ rfl hl.1 rfl (Nat.le_of_ble_eq_true rfl) dX7_risk_45 ⟨Nat.zero_le _, Nat.zero_le _⟩) hE (fun H locs hE => ?_)
        exact zr_iret S hE hr hlk h dX7_risk_48
      · have h := zif c10008 h
        refine zr_ldc S qc_X7_184 dX7_risk_27 ?_
        refine lv_goto (tgt := 48) hx hb dX7_risk_29 (by decide) ?_
        exact zr_iret S hE hr hlk h dX7_risk_48
    · have h := zif c10006 h
      refine zr_ldc S qc_X7_68 dX7_risk_14 ?_
      exact zr_iret S hE hr hlk h dX7_risk_16
set_option maxHeartbeats 4000000 in
set_option maxRecDepth 100000 in
theorem kX7_rule (l : Launch) (D : va_G) (tc : Nat → ClassId) (lo : Nat) (ad : Nat → Nat) (fr : va_W) (zq : zz_Q) (a1 : Int32) (a2 : Int32) (w : zz_W) (r : Int32) (w_ : zz_W) (h : fX7_rule a1 a2 w = some (r, w_)) : zMi l yX7_rule cX7_rule 4 (some .int) { frames := 1, cells := 0, slots := 0, locals := 22 } D tc lo ad zshC znnC fr zq [.ref (ad 0), .int a1, .int a2] w r w_ := by
  refine zr_entry (by decide) (Nat.le_of_ble_eq_true rfl) fun p e s m args below meth c ls S hX hr hlk hE hl => ?_
  have S : CallFix p m c cX7_rule 4 s args (Cond.code yX7_rule cX7_rule 4 (some .int) :: zw_tb) RX7 := S
  have hx := S.1
  have hb := S.2.1
  have hK := hX.2.1
  have hl : lv_has ls 4 [(0, .ref (ad 0)), (1, .int a1), (2, .int a2)] := hl
  unfold fX7_rule at h
  have J33 : ∀ (l1 : Int32) (l2 : Int32) (w : zz_W) (ls : Array Slot) (H : Heap) (locs : List Loc), fX7_rule_33 a1 a2 l1 l2 w = some (r, w_) → lv_has ls 4 [(0, .ref (ad 0)), (1, .int l1), (2, .int l2)] → zE D tc lo ad zshC znnC fr w s.heap H locs → W p l e { frames := 1, cells := 0, slots := 0, locals := 22 } s m args below meth c H locs 0 0 (zZi D tc lo ad zshC znnC fr below args s r w_) (F0 m 33 ls []) := by
    intro l1 l2 w ls H locs h hl hE
    unfold fX7_rule_33 at h
    refine lv_iload_n hx hb dX7_rule_33 rfl (lv_at hl 1 rfl) ?_
    refine lv_iconst (v := 1) hx hb dX7_rule_34 (by decide) ?_
    refine lv_icmp_ne (tgt := 66) hx hb dX7_rule_35 (by decide) (fun c29 => ?_) (fun c29 => ?_)
    · have h := zif' c29 h
      refine zr_ldc S qc_X7_68 dX7_rule_66 ?_
      obtain ⟨x30, ex30, h⟩ := zbdE h
      refine zr_topi ex30 ?_
      refine lv_istore_n (lv' := [(3, .int x30), (0, .ref (ad 0)), (1, .int l1), (2, .int l2)]) hx hb dX7_rule_68 rfl hl (by decide) rfl (fun ls hl => ?_)
      refine lv_iload_n hx hb dX7_rule_69 rfl (lv_at hl 0 rfl) ?_
      exact zr_iret S hE hr hlk h dX7_rule_70
    · have h := zif c29 h
      refine lv_iload_n hx hb dX7_rule_38 rfl (lv_at hl 2 rfl) ?_
      refine lv_iconst (v := 0) hx hb dX7_rule_39 (by decide) ?_
      refine lv_iconst (v := 1) hx hb dX7_rule_40 (by decide) ?_
      obtain ⟨x31, w32, ew32, h⟩ := zbd2E h
      refine zr_i (zr_runS (As := [.int l2, .int 0, .int 1]) S hX hE (kX7_within l D tc lo ad fr zq l2 0 1 w x31 w32 ew32) zyX7_within qm_X7_61 ⟨rfl, rfl⟩ ⟨Nat.le_of_ble_eq_true rfl, Nat.le_of_ble_eq_true rfl⟩ rfl hl.1 rfl (Nat.le_of_ble_eq_true rfl) dX7_rule_41 ⟨Nat.zero_le _, Nat.zero_le _⟩) hE (fun H locs hE => ?_)
      refine lv_if_eq (tgt := 66) hx hb dX7_rule_44 (by decide) (fun c33 => ?_) (fun c33 => ?_)
      · have h := zif c33 h
        refine zr_ldc S qc_X7_68 dX7_rule_66 ?_
        obtain ⟨x34, ex34, h⟩ := zbdE h
        refine zr_topi ex34 ?_
        refine lv_istore_n (lv' := [(3, .int x34), (0, .ref (ad 0)), (1, .int l1), (2, .int l2)]) hx hb dX7_rule_68 rfl hl (by decide) rfl (fun ls hl => ?_)
        refine lv_iload_n hx hb dX7_rule_69 rfl (lv_at hl 0 rfl) ?_
        exact zr_iret S hE hr hlk h dX7_rule_70
      · have h := zif' c33 h
        refine lv_aload_n hx hb dX7_rule_47 rfl (lv_at hl 0 rfl) ?_
        refine zr_getA S hK hE zcl_X7 (zc_0 w32) 0 (Nat.le_of_ble_eq_true rfl) (q := 1) rfl qf_X7_10 dX7_rule_48 ?_
        obtain ⟨x35, ex35, h⟩ := zbdE h
        refine zr_getI S hK hE zcl_X6 (zcW0 zW1 w32) 12 (Nat.le_of_ble_eq_true rfl) rfl qf_X7_157 dX7_rule_51 ex35 ?_
        refine lv_istore_n (lv' := [(3, .int x35), (0, .ref (ad 0)), (1, .int l1), (2, .int l2)]) hx hb dX7_rule_54 rfl hl (by decide) rfl (fun ls hl => ?_)
        refine lv_aload_n hx hb dX7_rule_55 rfl (lv_at hl 1 rfl) ?_
        refine zr_getA S hK hE zcl_X7 (zc_0 w32) 0 (Nat.le_of_ble_eq_true rfl) (q := 1) rfl qf_X7_10 dX7_rule_56 ?_
        refine lv_iload_n hx hb dX7_rule_59 rfl (lv_at hl 3 rfl) ?_
        obtain ⟨w36, ew36, h⟩ := zbdE h
        refine zr_putI S hK hE zcl_X6 (zcW0 zW1 w32) 12 (Nat.le_of_ble_eq_true rfl) rfl rfl rfl qf_X7_157 dX7_rule_60 ew36 (fun H locs hE => ?_)
        refine lv_goto (tgt := 69) hx hb dX7_rule_63 (by decide) ?_
        refine lv_iload_n hx hb dX7_rule_69 rfl (lv_at hl 0 rfl) ?_
        exact zr_iret S hE hr hlk h dX7_rule_70
  refine lv_iload_n hx hb dX7_rule_0 rfl (lv_at hl 1 rfl) ?_
  refine lv_if_ne (tgt := 33) hx hb dX7_rule_1 (by decide) (fun c10001 => ?_) (fun c10001 => ?_)
  · have h := zif' c10001 h
    exact J33 a1 a2 w ls _ _ h (lv_sub hl [0, 1, 2] rfl) hE
  · have h := zif c10001 h
    refine lv_iload_n hx hb dX7_rule_4 rfl (lv_at hl 2 rfl) ?_
    refine lv_iconst (v := 0) hx hb dX7_rule_5 (by decide) ?_
    refine lv_bipush (v := 49) hx hb dX7_rule_6 (by decide) ?_
    obtain ⟨x10002, w10003, ew10003, h⟩ := zbd2E h
    refine zr_i (zr_runS (As := [.int a2, .int 0, .int 49]) S hX hE (kX7_within l D tc lo ad fr zq a2 0 49 w x10002 w10003 ew10003) zyX7_within qm_X7_61 ⟨rfl, rfl⟩ ⟨Nat.le_of_ble_eq_true rfl, Nat.le_of_ble_eq_true rfl⟩ rfl hl.1 rfl (Nat.le_of_ble_eq_true rfl) dX7_rule_8 ⟨Nat.zero_le _, Nat.zero_le _⟩) hE (fun H locs hE => ?_)
    refine lv_if_eq (tgt := 33) hx hb dX7_rule_11 (by decide) (fun c10004 => ?_) (fun c10004 => ?_)
    · have h := zif c10004 h
      exact J33 a1 a2 w10003 ls _ _ h (lv_sub hl [0, 1, 2] rfl) hE
    · have h := zif' c10004 h
      refine lv_aload_n hx hb dX7_rule_14 rfl (lv_at hl 0 rfl) ?_
      refine zr_getA S hK hE zcl_X7 (zc_0 w10003) 0 (Nat.le_of_ble_eq_true rfl) (q := 1) rfl qf_X7_10 dX7_rule_15 ?_
      obtain ⟨x10005, ex10005, h⟩ := zbdE h
      refine zr_getI S hK hE zcl_X6 (zcW0 zW1 w10003) 11 (Nat.le_of_ble_eq_true rfl) rfl qf_X7_154 dX7_rule_18 ex10005 ?_
      refine lv_istore_n (lv' := [(3, .int x10005), (0, .ref (ad 0)), (1, .int a1), (2, .int a2)]) hx hb dX7_rule_21 rfl hl (by decide) rfl (fun ls hl => ?_)
      refine lv_aload_n hx hb dX7_rule_22 rfl (lv_at hl 1 rfl) ?_
      refine zr_getA S hK hE zcl_X7 (zc_0 w10003) 0 (Nat.le_of_ble_eq_true rfl) (q := 1) rfl qf_X7_10 dX7_rule_23 ?_
      refine lv_iload_n hx hb dX7_rule_26 rfl (lv_at hl 3 rfl) ?_
      obtain ⟨w10006, ew10006, h⟩ := zbdE h
      refine zr_putI S hK hE zcl_X6 (zcW0 zW1 w10003) 11 (Nat.le_of_ble_eq_true rfl) rfl rfl rfl qf_X7_154 dX7_rule_27 ew10006 (fun H locs hE => ?_)
      refine lv_goto (tgt := 69) hx hb dX7_rule_30 (by decide) ?_
      refine lv_iload_n hx hb dX7_rule_69 rfl (lv_at hl 0 rfl) ?_
      exact zr_iret S hE hr hlk h dX7_rule_70
set_option maxHeartbeats 4000000 in
set_option maxRecDepth 100000 in
theorem kX7_run (l : Launch) (D : va_G) (tc : Nat → ClassId) (lo : Nat) (ad : Nat → Nat) (fr : va_W) (zq : zz_Q) (a1 : Int32) (a2 : Int32) (a3 : Int32) (a4 : Int32) (w : zz_W) (r : Int32) (w_ : zz_W) (h : fX7_run a1 a2 a3 a4 w = some (r, w_)) : zMi l yX7_run cX7_run 5 (some .int) { frames := 5, cells := 0, slots := 0, locals := 115 } D tc lo ad zshC znnC fr zq [.ref (ad 0), .int a1, .int a2, .int a3, .int a4] w r w_ := by
  refine zr_entry (by decide) (Nat.le_of_ble_eq_true rfl) fun p e s m args below meth c ls S hX hr hlk hE hl => ?_
  have S : CallFix p m c cX7_run 5 s args (Cond.code yX7_run cX7_run 5 (some .int) :: zw_tb) RX7 := S
  have hx := S.1
  have hb := S.2.1
  have hK := hX.2.1
  have hl : lv_has ls 5 [(0, .ref (ad 0)), (1, .int a1), (2, .int a2), (3, .int a3), (4, .int a4)] := hl
  unfold fX7_run at h
  refine lv_iload_n hx hb dX7_run_0 rfl (lv_at hl 1 rfl) ?_
  obtain ⟨x10001, w10002, ew10002, h⟩ := zbd2E h
  refine zr_i (zr_runS (As := [.int a1]) S hX hE (kX7_isKind l D tc lo ad fr zq a1 w x10001 w10002 ew10002) zyX7_isKind qm_X7_54 ⟨rfl, rfl⟩ ⟨Nat.le_of_ble_eq_true rfl, Nat.le_of_ble_eq_true rfl⟩ rfl hl.1 rfl (Nat.le_of_ble_eq_true rfl) dX7_run_1 ⟨Nat.zero_le _, Nat.zero_le _⟩) hE (fun H locs hE => ?_)
  refine lv_if_eq (tgt := 32) hx hb dX7_run_4 (by decide) (fun c10003 => ?_) (fun c10003 => ?_)
  · have h := zif c10003 h
    refine zr_ldc S qc_X7_68 dX7_run_32 ?_
    exact zr_iret S hE hr hlk h dX7_run_34
  · have h := zif' c10003 h
    refine lv_iload_n hx hb dX7_run_7 rfl (lv_at hl 2 rfl) ?_
    obtain ⟨x10004, w10005, ew10005, h⟩ := zbd2E h
    refine zr_i (zr_runS (As := [.int a2]) S hX hE (kX7_isCell l D tc lo ad fr zq a2 w10002 x10004 w10005 ew10005) zyX7_isCell qm_X7_58 ⟨rfl, rfl⟩ ⟨Nat.le_of_ble_eq_true rfl, Nat.le_of_ble_eq_true rfl⟩ rfl hl.1 rfl (Nat.le_of_ble_eq_true rfl) dX7_run_8 ⟨Nat.zero_le _, Nat.zero_le _⟩) hE (fun H locs hE => ?_)
    refine lv_if_eq (tgt := 32) hx hb dX7_run_11 (by decide) (fun c10006 => ?_) (fun c10006 => ?_)
    · have h := zif c10006 h
      refine zr_ldc S qc_X7_68 dX7_run_32 ?_
      exact zr_iret S hE hr hlk h dX7_run_34
    · have h := zif' c10006 h
      refine lv_iload_n hx hb dX7_run_14 rfl (lv_at hl 3 rfl) ?_
      refine lv_iconst (v := 1) hx hb dX7_run_15 (by decide) ?_
      refine lv_bipush (v := 99) hx hb dX7_run_16 (by decide) ?_
      obtain ⟨x10007, w10008, ew10008, h⟩ := zbd2E h
      refine zr_i (zr_runS (As := [.int a3, .int 1, .int 99]) S hX hE (kX7_within l D tc lo ad fr zq a3 1 99 w10005 x10007 w10008 ew10008) zyX7_within qm_X7_61 ⟨rfl, rfl⟩ ⟨Nat.le_of_ble_eq_true rfl, Nat.le_of_ble_eq_true rfl⟩ rfl hl.1 rfl (Nat.le_of_ble_eq_true rfl) dX7_run_18 ⟨Nat.zero_le _, Nat.zero_le _⟩) hE (fun H locs hE => ?_)
      refine lv_if_eq (tgt := 32) hx hb dX7_run_21 (by decide) (fun c10009 => ?_) (fun c10009 => ?_)
      · have h := zif c10009 h
        refine zr_ldc S qc_X7_68 dX7_run_32 ?_
        exact zr_iret S hE hr hlk h dX7_run_34
      · have h := zif' c10009 h
        refine lv_iload hx hb dX7_run_24 (lv_at hl 4 rfl) ?_
        obtain ⟨x10010, w10011, ew10011, h⟩ := zbd2E h
        refine zr_i (zr_runS (As := [.int a4]) S hX hE (kX7_isDepth l D tc lo ad fr zq a4 w10008 x10010 w10011 ew10011) zyX7_isDepth qm_X7_65 ⟨rfl, rfl⟩ ⟨Nat.le_of_ble_eq_true rfl, Nat.le_of_ble_eq_true rfl⟩ rfl hl.1 rfl (Nat.le_of_ble_eq_true rfl) dX7_run_26 ⟨Nat.zero_le _, Nat.zero_le _⟩) hE (fun H locs hE => ?_)
        refine lv_if_ne (tgt := 35) hx hb dX7_run_29 (by decide) (fun c10012 => ?_) (fun c10012 => ?_)
        · have h := zif' c10012 h
          refine lv_aload_n hx hb dX7_run_35 rfl (lv_at hl 0 rfl) ?_
          refine zr_getA S hK hE zcl_X7 (zc_0 w10011) 0 (Nat.le_of_ble_eq_true rfl) (q := 1) rfl qf_X7_10 dX7_run_36 ?_
          obtain ⟨x10013, ex10013, h⟩ := zbdE h
          refine zr_getI S hK hE zcl_X6 (zcW0 zW1 w10011) 9 (Nat.le_of_ble_eq_true rfl) rfl qf_X7_69 dX7_run_39 ex10013 ?_
          refine lv_bipush (v := 10) hx hb dX7_run_42 (by decide) ?_
          refine lv_icmp_lt (tgt := 50) hx hb dX7_run_44 (by decide) (fun c10014 => ?_) (fun c10014 => ?_)
          · have h := zif c10014 h
            refine lv_aload_n hx hb dX7_run_50 rfl (lv_at hl 0 rfl) ?_
            refine zr_getA S hK hE zcl_X7 (zc_0 w10011) 0 (Nat.le_of_ble_eq_true rfl) (q := 1) rfl qf_X7_10 dX7_run_51 ?_
            refine lv_iload_n hx hb dX7_run_54 rfl (lv_at hl 1 rfl) ?_
            refine lv_iload_n hx hb dX7_run_55 rfl (lv_at hl 2 rfl) ?_
            refine lv_iload_n hx hb dX7_run_56 rfl (lv_at hl 3 rfl) ?_
            refine lv_iload hx hb dX7_run_57 (lv_at hl 4 rfl) ?_
            obtain ⟨w10015, ew10015, h⟩ := zbdE h
            refine zr_v (zr_runV (As := [.int a1, .int a2, .int a3, .int a4]) S hX hE (kX6_addRun l D tc lo ad fr zq 1 a1 a2 a3 a4 w10011 w10015 ew10015) zyX6_addRun qm_X7_74 zcl_X6 rfl (zcW0 zW1 w10011) ⟨rfl, rfl⟩ ⟨Nat.le_of_ble_eq_true rfl, Nat.le_of_ble_eq_true rfl⟩ rfl hl.1 rfl (Nat.le_of_ble_eq_true rfl) dX7_run_59 ⟨Nat.zero_le _, Nat.zero_le _⟩) hE (fun H locs hE => ?_)
            refine lv_aload_n hx hb dX7_run_62 rfl (lv_at hl 0 rfl) ?_
            refine zr_getA S hK hE zcl_X7 (zc_0 w10015) 0 (Nat.le_of_ble_eq_true rfl) (q := 1) rfl qf_X7_10 dX7_run_63 ?_
            obtain ⟨x10016, ex10016, h⟩ := zbdE h
            refine zr_getI S hK hE zcl_X6 (zcW0 zW1 w10015) 9 (Nat.le_of_ble_eq_true rfl) rfl qf_X7_69 dX7_run_66 ex10016 ?_
            refine lv_iconst (v := 1) hx hb dX7_run_69 (by decide) ?_
            refine lv_isub hx hb dX7_run_70 ?_
            exact zr_iret S hE hr hlk h dX7_run_71
          · have h := zif' c10014 h
            refine zr_ldc S qc_X7_73 dX7_run_47 ?_
            exact zr_iret S hE hr hlk h dX7_run_49
        · have h := zif c10012 h
          refine zr_ldc S qc_X7_68 dX7_run_32 ?_
          exact zr_iret S hE hr hlk h dX7_run_34
set_option maxHeartbeats 4000000 in
set_option maxRecDepth 100000 in
theorem kX7_safe (l : Launch) (D : va_G) (tc : Nat → ClassId) (lo : Nat) (ad : Nat → Nat) (fr : va_W) (zq : zz_Q) (a1 : Int32) (a2 : Int32) (w : zz_W) (r : Int32) (w_ : zz_W) (h : fX7_safe a1 a2 w = some (r, w_)) : zMi l yX7_safe cX7_safe 4 (some .int) { frames := 6, cells := 0, slots := 0, locals := 144 } D tc lo ad zshC znnC fr zq [.ref (ad 0), .int a1, .int a2] w r w_ := by
  refine zr_entry (by decide) (Nat.le_of_ble_eq_true rfl) fun p e s m args below meth c ls S hX hr hlk hE hl => ?_
  have S : CallFix p m c cX7_safe 4 s args (Cond.code yX7_safe cX7_safe 4 (some .int) :: zw_tb) RX7 := S
  have hx := S.1
  have hb := S.2.1
  have hK := hX.2.1
  have hl : lv_has ls 4 [(0, .ref (ad 0)), (1, .int a1), (2, .int a2)] := hl
  unfold fX7_safe at h
  have L36 : ∀ (n : Nat) (l1 : Int32) (l2 : Int32) (l3 : Int32) (w : zz_W) (ls : Array Slot) (H : Heap) (locs : List Loc), fX7_safe_36 a1 a2 n l1 l2 l3 w = some (r, w_) → lv_has ls 4 [(0, .ref (ad 0)), (1, .int l1), (2, .int l2), (3, .int l3)] → zE D tc lo ad zshC znnC fr w s.heap H locs → W p l e { frames := 6, cells := 0, slots := 0, locals := 144 } s m args below meth c H locs 0 0 (zZi D tc lo ad zshC znnC fr below args s r w_) (F0 m 36 ls []) := by
    intro n36
    induction n36 with
    | zero => intro l1 l2 l3 w ls H locs h hl hE; rw [fX7_safe_36] at h; cases h
    | succ n36 ih36 =>
      intro l1 l2 l3 w ls H locs h hl hE
      rw [fX7_safe_36] at h
      refine lv_iload_n hx hb dX7_safe_36 rfl (lv_at hl 3 rfl) ?_
      refine lv_if_le (tgt := 68) hx hb dX7_safe_37 (by decide) (fun c31 => ?_) (fun c31 => ?_)
      · have h := zif c31 h
        refine lv_iconst (v := 0) hx hb dX7_safe_68 (by decide) ?_
        exact zr_iret S hE hr hlk h dX7_safe_69
      · have h := zif' c31 h
        refine lv_aload_n hx hb dX7_safe_40 rfl (lv_at hl 0 rfl) ?_
        refine zr_getA S hK hE zcl_X7 (zc_0 w) 0 (Nat.le_of_ble_eq_true rfl) (q := 1) rfl qf_X7_10 dX7_safe_41 ?_
        refine lv_aload_n hx hb dX7_safe_44 rfl (lv_at hl 0 rfl) ?_
        refine zr_getA S hK hE zcl_X7 (zc_0 w) 0 (Nat.le_of_ble_eq_true rfl) (q := 1) rfl qf_X7_10 dX7_safe_45 ?_
        refine lv_iload_n hx hb dX7_safe_48 rfl (lv_at hl 1 rfl) ?_
        refine lv_iload_n hx hb dX7_safe_49 rfl (lv_at hl 3 rfl) ?_
        obtain ⟨x32, w33, ew33, h⟩ := zbd2E h
        refine zr_l (zr_runV (As := [.int l1, .int l3]) S hX hE (kX6_lossAt l D tc lo ad fr zq 1 l1 l3 w x32 w33 ew33) zyX6_lossAt qm_X7_199 zcl_X6 rfl (zcW0 zW1 w) ⟨rfl, rfl⟩ ⟨Nat.le_of_ble_eq_true rfl, Nat.le_of_ble_eq_true rfl⟩ rfl hl.1 rfl (Nat.le_of_ble_eq_true rfl) dX7_safe_50 ⟨Nat.zero_le _, Nat.zero_le _⟩) hE (fun H locs hE => ?_)
        obtain ⟨x34, w35, ew35, h⟩ := zbd2E h
        refine zr_i (zr_runV (As := [.long x32]) S hX hE (kX6_ofThousand l D tc lo ad fr zq 1 x32 w33 x34 w35 ew35) zyX6_ofThousand qm_X7_196 zcl_X6 rfl (zcW0 zW1 w33) ⟨rfl, rfl⟩ ⟨Nat.le_of_ble_eq_true rfl, Nat.le_of_ble_eq_true rfl⟩ rfl hl.1 rfl (Nat.le_of_ble_eq_true rfl) dX7_safe_53 ⟨Nat.zero_le _, Nat.zero_le _⟩) hE (fun H locs hE => ?_)
        refine lv_iload_n hx hb dX7_safe_56 rfl (lv_at hl 2 rfl) ?_
        refine lv_icmp_gt (tgt := 62) hx hb dX7_safe_57 (by decide) (fun c36 => ?_) (fun c36 => ?_)
        · have h := zif c36 h
          obtain ⟨x37, ex37, h⟩ := zbdE h
          refine lv_iinc (v := x37) (lv' := [(3, .int x37), (0, .ref (ad 0)), (1, .int l1), (2, .int l2)]) hx hb dX7_safe_62 hl (k := 3) rfl (zinc (k := (-1)) (by decide) ex37) (by decide) rfl (fun ls hl => ?_)
          refine lv_goto (tgt := 36) hx hb dX7_safe_65 (by decide) ?_
          exact ih36 l1 l2 x37 w35 ls _ _ h (lv_sub hl [1, 2, 3, 0] rfl) hE
        · have h := zif' c36 h
          refine lv_iload_n hx hb dX7_safe_60 rfl (lv_at hl 3 rfl) ?_
          exact zr_iret S hE hr hlk h dX7_safe_61
  refine lv_iload_n hx hb dX7_safe_0 rfl (lv_at hl 1 rfl) ?_
  obtain ⟨x10001, w10002, ew10002, h⟩ := zbd2E h
  refine zr_i (zr_runS (As := [.int a1]) S hX hE (kX7_isCell l D tc lo ad fr zq a1 w x10001 w10002 ew10002) zyX7_isCell qm_X7_58 ⟨rfl, rfl⟩ ⟨Nat.le_of_ble_eq_true rfl, Nat.le_of_ble_eq_true rfl⟩ rfl hl.1 rfl (Nat.le_of_ble_eq_true rfl) dX7_safe_1 ⟨Nat.zero_le _, Nat.zero_le _⟩) hE (fun H locs hE => ?_)
  refine lv_if_eq (tgt := 17) hx hb dX7_safe_4 (by decide) (fun c10003 => ?_) (fun c10003 => ?_)
  · have h := zif c10003 h
    refine zr_ldc S qc_X7_68 dX7_safe_17 ?_
    exact zr_iret S hE hr hlk h dX7_safe_19
  · have h := zif' c10003 h
    refine lv_iload_n hx hb dX7_safe_7 rfl (lv_at hl 2 rfl) ?_
    refine lv_iconst (v := 0) hx hb dX7_safe_8 (by decide) ?_
    refine zr_ldc S qc_X7_216 dX7_safe_9 ?_
    obtain ⟨x10004, w10005, ew10005, h⟩ := zbd2E h
    refine zr_i (zr_runS (As := [.int a2, .int 0, .int 99999]) S hX hE (kX7_within l D tc lo ad fr zq a2 0 99999 w10002 x10004 w10005 ew10005) zyX7_within qm_X7_61 ⟨rfl, rfl⟩ ⟨Nat.le_of_ble_eq_true rfl, Nat.le_of_ble_eq_true rfl⟩ rfl hl.1 rfl (Nat.le_of_ble_eq_true rfl) dX7_safe_11 ⟨Nat.zero_le _, Nat.zero_le _⟩) hE (fun H locs hE => ?_)
    refine lv_if_ne (tgt := 20) hx hb dX7_safe_14 (by decide) (fun c10006 => ?_) (fun c10006 => ?_)
    · have h := zif' c10006 h
      refine lv_aload_n hx hb dX7_safe_20 rfl (lv_at hl 0 rfl) ?_
      refine zr_getA S hK hE zcl_X7 (zc_0 w10005) 0 (Nat.le_of_ble_eq_true rfl) (q := 1) rfl qf_X7_10 dX7_safe_21 ?_
      obtain ⟨x10007, ex10007, h⟩ := zbdE h
      refine zr_getI S hK hE zcl_X6 (zcW0 zW1 w10005) 9 (Nat.le_of_ble_eq_true rfl) rfl qf_X7_69 dX7_safe_24 ex10007 ?_
      refine lv_if_ne (tgt := 33) hx hb dX7_safe_27 (by decide) (fun c10008 => ?_) (fun c10008 => ?_)
      · have h := zif' c10008 h
        refine lv_bipush (v := 9) hx hb dX7_safe_33 (by decide) ?_
        refine lv_istore_n (lv' := [(3, .int 9), (0, .ref (ad 0)), (1, .int a1), (2, .int a2)]) hx hb dX7_safe_35 rfl hl (by decide) rfl (fun ls hl => ?_)
        exact L36 zfuel a1 a2 9 w10005 ls _ _ h (lv_sub hl [1, 2, 3, 0] rfl) hE
      · have h := zif c10008 h
        refine zr_ldc S qc_X7_184 dX7_safe_30 ?_
        exact zr_iret S hE hr hlk h dX7_safe_32
    · have h := zif c10006 h
      refine zr_ldc S qc_X7_68 dX7_safe_17 ?_
      exact zr_iret S hE hr hlk h dX7_safe_19
set_option maxHeartbeats 4000000 in
set_option maxRecDepth 100000 in
theorem kX7_seed (l : Launch) (D : va_G) (tc : Nat → ClassId) (lo : Nat) (ad : Nat → Nat) (fr : va_W) (zq : zz_Q) (a1 : Int32) (w : zz_W) (r : Int32) (w_ : zz_W) (h : fX7_seed a1 w = some (r, w_)) : zMi l yX7_seed cX7_seed 3 (some .int) { frames := 0, cells := 0, slots := 0, locals := 0 } D tc lo ad zshC znnC fr zq [.ref (ad 0), .int a1] w r w_ := by
  refine zr_entry (by decide) (Nat.le_of_ble_eq_true rfl) fun p e s m args below meth c ls S hX hr hlk hE hl => ?_
  have S : CallFix p m c cX7_seed 3 s args (Cond.code yX7_seed cX7_seed 3 (some .int) :: zw_tb) RX7 := S
  have hx := S.1
  have hb := S.2.1
  have hK := hX.2.1
  have hl : lv_has ls 3 [(0, .ref (ad 0)), (1, .int a1)] := hl
  unfold fX7_seed at h
  refine lv_aload_n hx hb dX7_seed_0 rfl (lv_at hl 0 rfl) ?_
  refine zr_getA S hK hE zcl_X7 (zc_0 w) 0 (Nat.le_of_ble_eq_true rfl) (q := 1) rfl qf_X7_10 dX7_seed_1 ?_
  obtain ⟨x10001, ex10001, h⟩ := zbdE h
  refine zr_getI S hK hE zcl_X6 (zcW0 zW1 w) 14 (Nat.le_of_ble_eq_true rfl) rfl qf_X7_151 dX7_seed_4 ex10001 ?_
  refine lv_istore_n (lv' := [(2, .int x10001), (0, .ref (ad 0)), (1, .int a1)]) hx hb dX7_seed_7 rfl hl (by decide) rfl (fun ls hl => ?_)
  refine lv_aload_n hx hb dX7_seed_8 rfl (lv_at hl 1 rfl) ?_
  refine zr_getA S hK hE zcl_X7 (zc_0 w) 0 (Nat.le_of_ble_eq_true rfl) (q := 1) rfl qf_X7_10 dX7_seed_9 ?_
  refine lv_iload_n hx hb dX7_seed_12 rfl (lv_at hl 2 rfl) ?_
  obtain ⟨w10002, ew10002, h⟩ := zbdE h
  refine zr_putI S hK hE zcl_X6 (zcW0 zW1 w) 14 (Nat.le_of_ble_eq_true rfl) rfl rfl rfl qf_X7_151 dX7_seed_13 ew10002 (fun H locs hE => ?_)
  refine lv_iload_n hx hb dX7_seed_16 rfl (lv_at hl 0 rfl) ?_
  exact zr_iret S hE hr hlk h dX7_seed_17
set_option maxHeartbeats 4000000 in
set_option maxRecDepth 100000 in
theorem kX7_setCell (l : Launch) (D : va_G) (tc : Nat → ClassId) (lo : Nat) (ad : Nat → Nat) (fr : va_W) (zq : zz_Q) (a1 : Int32) (a2 : Int32) (w : zz_W) (r : Int32) (w_ : zz_W) (h : fX7_setCell a1 a2 w = some (r, w_)) : zMi l yX7_setCell cX7_setCell 4 (some .int) { frames := 4, cells := 0, slots := 0, locals := 91 } D tc lo ad zshC znnC fr zq [.ref (ad 0), .int a1, .int a2] w r w_ := by
  refine zr_entry (by decide) (Nat.le_of_ble_eq_true rfl) fun p e s m args below meth c ls S hX hr hlk hE hl => ?_
  have S : CallFix p m c cX7_setCell 4 s args (Cond.code yX7_setCell cX7_setCell 4 (some .int) :: zw_tb) RX7 := S
  have hx := S.1
  have hb := S.2.1
  have hK := hX.2.1
  have hl : lv_has ls 4 [(0, .ref (ad 0)), (1, .int a1), (2, .int a2)] := hl
  unfold fX7_setCell at h
  refine lv_iload_n hx hb dX7_setCell_0 rfl (lv_at hl 2 rfl) ?_
  obtain ⟨x10001, w10002, ew10002, h⟩ := zbd2E h
  refine zr_i (zr_runS (As := [.int a2]) S hX hE (kX7_isCell l D tc lo ad fr zq a2 w x10001 w10002 ew10002) zyX7_isCell qm_X7_58 ⟨rfl, rfl⟩ ⟨Nat.le_of_ble_eq_true rfl, Nat.le_of_ble_eq_true rfl⟩ rfl hl.1 rfl (Nat.le_of_ble_eq_true rfl) dX7_setCell_1 ⟨Nat.zero_le _, Nat.zero_le _⟩) hE (fun H locs hE => ?_)
  refine lv_if_ne (tgt := 10) hx hb dX7_setCell_4 (by decide) (fun c10003 => ?_) (fun c10003 => ?_)
  · have h := zif' c10003 h
    refine lv_aload_n hx hb dX7_setCell_10 rfl (lv_at hl 0 rfl) ?_
    refine zr_getA S hK hE zcl_X7 (zc_0 w10002) 0 (Nat.le_of_ble_eq_true rfl) (q := 1) rfl qf_X7_10 dX7_setCell_11 ?_
    refine zr_getA S hK hE zcl_X6 (zcW0 zW1 w10002) 1 (Nat.le_of_ble_eq_true rfl) (q := 1 + 2) rfl qf_X7_84 dX7_setCell_14 ?_
    refine lv_iload_n hx hb dX7_setCell_17 rfl (lv_at hl 1 rfl) ?_
    obtain ⟨x10004, ex10004, h⟩ := zbdE h
    refine zr_iald S hK hE (zcW2 zW1 w10002) dX7_setCell_18 ex10004 ?_
    refine lv_istore_n (lv' := [(3, .int x10004), (0, .ref (ad 0)), (1, .int a1), (2, .int a2)]) hx hb dX7_setCell_19 rfl hl (by decide) rfl (fun ls hl => ?_)
    refine lv_aload_n hx hb dX7_setCell_20 rfl (lv_at hl 1 rfl) ?_
    refine zr_getA S hK hE zcl_X7 (zc_0 w10002) 0 (Nat.le_of_ble_eq_true rfl) (q := 1) rfl qf_X7_10 dX7_setCell_21 ?_
    refine lv_iload_n hx hb dX7_setCell_24 rfl (lv_at hl 2 rfl) ?_
    refine lv_aload_n hx hb dX7_setCell_25 rfl (lv_at hl 1 rfl) ?_
    refine zr_getA S hK hE zcl_X7 (zc_0 w10002) 0 (Nat.le_of_ble_eq_true rfl) (q := 1) rfl qf_X7_10 dX7_setCell_26 ?_
    refine zr_getA S hK hE zcl_X6 (zcW0 zW1 w10002) 0 (Nat.le_of_ble_eq_true rfl) (q := 1 + 1) rfl qf_X7_81 dX7_setCell_29 ?_
    refine lv_iload_n hx hb dX7_setCell_32 rfl (lv_at hl 2 rfl) ?_
    obtain ⟨x10005, ex10005, h⟩ := zbdE h
    refine zr_iald S hK hE (zcW1 zW1 w10002) dX7_setCell_33 ex10005 ?_
    refine lv_iload_n hx hb dX7_setCell_34 rfl (lv_at hl 3 rfl) ?_
    obtain ⟨w10006, ew10006, h⟩ := zbdE h
    refine zr_v (zr_runV (As := [.int a1, .int x10005, .int a2]) S hX hE (kX6_shape l D tc lo ad fr zq 1 a1 x10005 a2 w10002 w10006 ew10006) zyX6_shape qm_X7_121 zcl_X6 rfl (zcW0 zW1 w10002) ⟨rfl, rfl⟩ ⟨Nat.le_of_ble_eq_true rfl, Nat.le_of_ble_eq_true rfl⟩ rfl hl.1 rfl (Nat.le_of_ble_eq_true rfl) dX7_setCell_35 ⟨Nat.zero_le _, Nat.zero_le _⟩) hE (fun H locs hE => ?_)
    refine lv_iload_n hx hb dX7_setCell_38 rfl (lv_at hl 0 rfl) ?_
    exact zr_iret S hE hr hlk h dX7_setCell_39
  · have h := zif c10003 h
    refine zr_ldc S qc_X7_68 dX7_setCell_7 ?_
    exact zr_iret S hE hr hlk h dX7_setCell_9
set_option maxHeartbeats 4000000 in
set_option maxRecDepth 100000 in
theorem kX7_set (l : Launch) (D : va_G) (tc : Nat → ClassId) (lo : Nat) (ad : Nat → Nat) (fr : va_W) (zq : zz_Q) (a1 : Int32) (a2 : Int32) (a3 : Int32) (w : zz_W) (r : Int32) (w_ : zz_W) (h : fX7_set a1 a2 a3 w = some (r, w_)) : zMi l yX7_set cX7_set 4 (some .int) { frames := 5, cells := 0, slots := 0, locals := 114 } D tc lo ad zshC znnC fr zq [.ref (ad 0), .int a1, .int a2, .int a3] w r w_ := by
  refine zr_entry (by decide) (Nat.le_of_ble_eq_true rfl) fun p e s m args below meth c ls S hX hr hlk hE hl => ?_
  have S : CallFix p m c cX7_set 4 s args (Cond.code yX7_set cX7_set 4 (some .int) :: zw_tb) RX7 := S
  have hx := S.1
  have hb := S.2.1
  have hK := hX.2.1
  have hl : lv_has ls 4 [(0, .ref (ad 0)), (1, .int a1), (2, .int a2), (3, .int a3)] := hl
  unfold fX7_set at h
  refine lv_aload_n hx hb dX7_set_0 rfl (lv_at hl 0 rfl) ?_
  refine zr_getA S hK hE zcl_X7 (zc_0 w) 0 (Nat.le_of_ble_eq_true rfl) (q := 1) rfl qf_X7_10 dX7_set_1 ?_
  refine lv_iload_n hx hb dX7_set_4 rfl (lv_at hl 1 rfl) ?_
  obtain ⟨x10001, w10002, ew10002, h⟩ := zbd2E h
  refine zr_i (zr_runV (As := [.int a1]) S hX hE (kX6_isRun l D tc lo ad fr zq 1 a1 w x10001 w10002 ew10002) zyX6_isRun qm_X7_78 zcl_X6 rfl (zcW0 zW1 w) ⟨rfl, rfl⟩ ⟨Nat.le_of_ble_eq_true rfl, Nat.le_of_ble_eq_true rfl⟩ rfl hl.1 rfl (Nat.le_of_ble_eq_true rfl) dX7_set_5 ⟨Nat.zero_le _, Nat.zero_le _⟩) hE (fun H locs hE => ?_)
  refine lv_if_ne (tgt := 14) hx hb dX7_set_8 (by decide) (fun c10003 => ?_) (fun c10003 => ?_)
  · have h := zif' c10003 h
    refine lv_iload_n hx hb dX7_set_14 rfl (lv_at hl 2 rfl) ?_
    by_cases c10006 : a2 = 1
    · refine lv_tableIn (off := 25) (tgt := 40) hx hb dX7_set_15 (by rw [c10006]; decide) (by rw [c10006]; decide) (by rw [c10006]; decide) (by decide) ?_
      have h := zif c10006 h
      refine lv_aload_n hx hb dX7_set_40 rfl (lv_at hl 0 rfl) ?_
      refine lv_iload_n hx hb dX7_set_41 rfl (lv_at hl 1 rfl) ?_
      refine lv_iload_n hx hb dX7_set_42 rfl (lv_at hl 3 rfl) ?_
      obtain ⟨x10004, w10005, ew10005, h⟩ := zbd2E h
      refine zr_i (zr_runV (As := [.int a1, .int a3]) S hX hE (kX7_setCell l D tc lo ad fr zq a1 a3 w10002 x10004 w10005 ew10005) zyX7_setCell qm_X7_125 zcl_X7 rfl (zc_0 w10002) ⟨rfl, rfl⟩ ⟨Nat.le_of_ble_eq_true rfl, Nat.le_of_ble_eq_true rfl⟩ rfl hl.1 rfl (Nat.le_of_ble_eq_true rfl) dX7_set_43 ⟨Nat.zero_le _, Nat.zero_le _⟩) hE (fun H locs hE => ?_)
      exact zr_iret S hE hr hlk h dX7_set_46
    have h := zif' c10006 h
    by_cases c10012 : a2 = 2
    · refine lv_tableIn (off := 32) (tgt := 47) hx hb dX7_set_15 (by rw [c10012]; decide) (by rw [c10012]; decide) (by rw [c10012]; decide) (by decide) ?_
      have h := zif c10012 h
      refine lv_iload_n hx hb dX7_set_47 rfl (lv_at hl 3 rfl) ?_
      refine lv_iconst (v := 1) hx hb dX7_set_48 (by decide) ?_
      refine lv_bipush (v := 99) hx hb dX7_set_49 (by decide) ?_
      obtain ⟨x10007, w10008, ew10008, h⟩ := zbd2E h
      refine zr_i (zr_runS (As := [.int a3, .int 1, .int 99]) S hX hE (kX7_within l D tc lo ad fr zq a3 1 99 w10002 x10007 w10008 ew10008) zyX7_within qm_X7_61 ⟨rfl, rfl⟩ ⟨Nat.le_of_ble_eq_true rfl, Nat.le_of_ble_eq_true rfl⟩ rfl hl.1 rfl (Nat.le_of_ble_eq_true rfl) dX7_set_51 ⟨Nat.zero_le _, Nat.zero_le _⟩) hE (fun H locs hE => ?_)
      refine lv_if_eq (tgt := 72) hx hb dX7_set_54 (by decide) (fun c10009 => ?_) (fun c10009 => ?_)
      · have h := zif c10009 h
        refine zr_ldc S qc_X7_68 dX7_set_72 ?_
        exact zr_iret S hE hr hlk h dX7_set_74
      · have h := zif' c10009 h
        refine lv_aload_n hx hb dX7_set_57 rfl (lv_at hl 0 rfl) ?_
        refine zr_getA S hK hE zcl_X7 (zc_0 w10008) 0 (Nat.le_of_ble_eq_true rfl) (q := 1) rfl qf_X7_10 dX7_set_58 ?_
        refine zr_getA S hK hE zcl_X6 (zcW0 zW1 w10008) 2 (Nat.le_of_ble_eq_true rfl) (q := 1 + 3) rfl qf_X7_87 dX7_set_61 ?_
        refine lv_iload_n hx hb dX7_set_64 rfl (lv_at hl 1 rfl) ?_
        refine lv_iload_n hx hb dX7_set_65 rfl (lv_at hl 3 rfl) ?_
        obtain ⟨x10010, w10011, ew10011, h⟩ := zbd2E h
        refine zr_i (zr_runS (As := [.ref (ad (1 + 3)), .int a1, .int a3]) S hX hE (kX7_exchange l D tc lo ad fr zq (1 + 3) a1 a3 w10008 x10010 w10011 ew10011) zyX7_exchange qm_X7_128 ⟨rfl, rfl⟩ ⟨Nat.le_of_ble_eq_true rfl, Nat.le_of_ble_eq_true rfl⟩ rfl hl.1 rfl (Nat.le_of_ble_eq_true rfl) dX7_set_66 ⟨Nat.zero_le _, Nat.zero_le _⟩) hE (fun H locs hE => ?_)
        refine lv_goto (tgt := 74) hx hb dX7_set_69 (by decide) ?_
        exact zr_iret S hE hr hlk h dX7_set_74
    have h := zif' c10012 h
    by_cases c10018 : a2 = 3
    · refine lv_tableIn (off := 60) (tgt := 75) hx hb dX7_set_15 (by rw [c10018]; decide) (by rw [c10018]; decide) (by rw [c10018]; decide) (by decide) ?_
      have h := zif c10018 h
      refine lv_iload_n hx hb dX7_set_75 rfl (lv_at hl 3 rfl) ?_
      obtain ⟨x10013, w10014, ew10014, h⟩ := zbd2E h
      refine zr_i (zr_runS (As := [.int a3]) S hX hE (kX7_isDepth l D tc lo ad fr zq a3 w10002 x10013 w10014 ew10014) zyX7_isDepth qm_X7_65 ⟨rfl, rfl⟩ ⟨Nat.le_of_ble_eq_true rfl, Nat.le_of_ble_eq_true rfl⟩ rfl hl.1 rfl (Nat.le_of_ble_eq_true rfl) dX7_set_76 ⟨Nat.zero_le _, Nat.zero_le _⟩) hE (fun H locs hE => ?_)
      refine lv_if_eq (tgt := 97) hx hb dX7_set_79 (by decide) (fun c10015 => ?_) (fun c10015 => ?_)
      · have h := zif c10015 h
        refine zr_ldc S qc_X7_68 dX7_set_97 ?_
        exact zr_iret S hE hr hlk h dX7_set_99
      · have h := zif' c10015 h
        refine lv_aload_n hx hb dX7_set_82 rfl (lv_at hl 0 rfl) ?_
        refine zr_getA S hK hE zcl_X7 (zc_0 w10014) 0 (Nat.le_of_ble_eq_true rfl) (q := 1) rfl qf_X7_10 dX7_set_83 ?_
        refine zr_getA S hK hE zcl_X6 (zcW0 zW1 w10014) 3 (Nat.le_of_ble_eq_true rfl) (q := 1 + 4) rfl qf_X7_90 dX7_set_86 ?_
        refine lv_iload_n hx hb dX7_set_89 rfl (lv_at hl 1 rfl) ?_
        refine lv_iload_n hx hb dX7_set_90 rfl (lv_at hl 3 rfl) ?_
        obtain ⟨x10016, w10017, ew10017, h⟩ := zbd2E h
        refine zr_i (zr_runS (As := [.ref (ad (1 + 4)), .int a1, .int a3]) S hX hE (kX7_exchange l D tc lo ad fr zq (1 + 4) a1 a3 w10014 x10016 w10017 ew10017) zyX7_exchange qm_X7_128 ⟨rfl, rfl⟩ ⟨Nat.le_of_ble_eq_true rfl, Nat.le_of_ble_eq_true rfl⟩ rfl hl.1 rfl (Nat.le_of_ble_eq_true rfl) dX7_set_91 ⟨Nat.zero_le _, Nat.zero_le _⟩) hE (fun H locs hE => ?_)
        refine lv_goto (tgt := 99) hx hb dX7_set_94 (by decide) ?_
        exact zr_iret S hE hr hlk h dX7_set_99
    have h := zif' c10018 h
    refine lv_tableOut (tgt := 100) hx hb dX7_set_15 (by have tc10006 := lv_neT c10006 (a := 1) (by decide); have tc10012 := lv_neT c10012 (a := 2) (by decide); have tc10018 := lv_neT c10018 (a := 3) (by decide); omega) (by decide) ?_
    refine zr_ldc S qc_X7_68 dX7_set_100 ?_
    exact zr_iret S hE hr hlk h dX7_set_102
  · have h := zif c10003 h
    refine zr_ldc S qc_X7_68 dX7_set_11 ?_
    exact zr_iret S hE hr hlk h dX7_set_13
set_option maxHeartbeats 4000000 in
set_option maxRecDepth 100000 in
theorem kX7_sheet (l : Launch) (D : va_G) (tc : Nat → ClassId) (lo : Nat) (ad : Nat → Nat) (fr : va_W) (zq : zz_Q) (a1 : Int32) (a2 : Int32) (a3 : Int32) (w : zz_W) (r : Int32) (w_ : zz_W) (h : fX7_sheet a1 a2 a3 w = some (r, w_)) : zMi l yX7_sheet cX7_sheet 4 (some .int) { frames := 2, cells := 0, slots := 0, locals := 45 } D tc lo ad zshC znnC fr zq [.ref (ad 0), .int a1, .int a2, .int a3] w r w_ := by
  refine zr_entry (by decide) (Nat.le_of_ble_eq_true rfl) fun p e s m args below meth c ls S hX hr hlk hE hl => ?_
  have S : CallFix p m c cX7_sheet 4 s args (Cond.code yX7_sheet cX7_sheet 4 (some .int) :: zw_tb) RX7 := S
  have hx := S.1
  have hb := S.2.1
  have hK := hX.2.1
  have hl : lv_has ls 4 [(0, .ref (ad 0)), (1, .int a1), (2, .int a2), (3, .int a3)] := hl
  unfold fX7_sheet at h
  refine lv_iload_n hx hb dX7_sheet_0 rfl (lv_at hl 1 rfl) ?_
  obtain ⟨x10001, w10002, ew10002, h⟩ := zbd2E h
  refine zr_i (zr_runS (As := [.int a1]) S hX hE (kX7_isSheet l D tc lo ad fr zq a1 w x10001 w10002 ew10002) zyX7_isSheet qm_X7_203 ⟨rfl, rfl⟩ ⟨Nat.le_of_ble_eq_true rfl, Nat.le_of_ble_eq_true rfl⟩ rfl hl.1 rfl (Nat.le_of_ble_eq_true rfl) dX7_sheet_1 ⟨Nat.zero_le _, Nat.zero_le _⟩) hE (fun H locs hE => ?_)
  refine lv_if_eq (tgt := 16) hx hb dX7_sheet_4 (by decide) (fun c10003 => ?_) (fun c10003 => ?_)
  · have h := zif c10003 h
    refine zr_ldc S qc_X7_68 dX7_sheet_16 ?_
    exact zr_iret S hE hr hlk h dX7_sheet_18
  · have h := zif' c10003 h
    refine lv_iload_n hx hb dX7_sheet_7 rfl (lv_at hl 2 rfl) ?_
    refine lv_iconst (v := (-1)) hx hb dX7_sheet_8 (by decide) ?_
    refine lv_iconst (v := 1) hx hb dX7_sheet_9 (by decide) ?_
    obtain ⟨x10004, w10005, ew10005, h⟩ := zbd2E h
    refine zr_i (zr_runS (As := [.int a2, .int (-1), .int 1]) S hX hE (kX7_within l D tc lo ad fr zq a2 (-1) 1 w10002 x10004 w10005 ew10005) zyX7_within qm_X7_61 ⟨rfl, rfl⟩ ⟨Nat.le_of_ble_eq_true rfl, Nat.le_of_ble_eq_true rfl⟩ rfl hl.1 rfl (Nat.le_of_ble_eq_true rfl) dX7_sheet_10 ⟨Nat.zero_le _, Nat.zero_le _⟩) hE (fun H locs hE => ?_)
    refine lv_if_ne (tgt := 19) hx hb dX7_sheet_13 (by decide) (fun c10006 => ?_) (fun c10006 => ?_)
    · have h := zif' c10006 h
      refine lv_iload_n hx hb dX7_sheet_19 rfl (lv_at hl 2 rfl) ?_
      refine lv_iconst (v := (-1)) hx hb dX7_sheet_20 (by decide) ?_
      refine lv_icmp_ne (tgt := 37) hx hb dX7_sheet_21 (by decide) (fun c10007 => ?_) (fun c10007 => ?_)
      · have h := zif' c10007 h
        refine lv_iload_n hx hb dX7_sheet_37 rfl (lv_at hl 3 rfl) ?_
        refine lv_bipush (v := 24) hx hb dX7_sheet_38 (by decide) ?_
        refine lv_icmp_le (tgt := 46) hx hb dX7_sheet_40 (by decide) (fun c10008 => ?_) (fun c10008 => ?_)
        · have h := zif c10008 h
          refine lv_iload_n hx hb dX7_sheet_46 rfl (lv_at hl 3 rfl) ?_
          refine lv_if_ge (tgt := 54) hx hb dX7_sheet_47 (by decide) (fun c10009 => ?_) (fun c10009 => ?_)
          · have h := zif c10009 h
            refine lv_aload_n hx hb dX7_sheet_54 rfl (lv_at hl 0 rfl) ?_
            refine zr_getA S hK hE zcl_X7 (zc_0 w10005) 5 (Nat.le_of_ble_eq_true rfl) (q := 39) rfl qf_X7_38 dX7_sheet_55 ?_
            refine lv_iload_n hx hb dX7_sheet_58 rfl (lv_at hl 1 rfl) ?_
            obtain ⟨q10010, eq10010, h⟩ := zbdE h
            refine zr_aald4 S hK hE (zc_39 w10005) dX7_sheet_59 eq10010 ?_
            refine lv_iload_n hx hb dX7_sheet_60 rfl (lv_at hl 2 rfl) ?_
            refine lv_iload_n hx hb dX7_sheet_61 rfl (lv_at hl 3 rfl) ?_
            obtain ⟨w10011, ew10011, h⟩ := zbdE h
            refine zr_v (zr_runV (As := [.int a2, .int a3]) S hX hE (kX2_renew l D tc lo ad fr zq q10010 a2 a3 w10005 w10011 ew10011) zyX2_renew qm_X7_289 zcl_X2 rfl (zcS0 (zq4_S eq10010) w10005) ⟨rfl, rfl⟩ ⟨Nat.le_of_ble_eq_true rfl, Nat.le_of_ble_eq_true rfl⟩ rfl hl.1 rfl (Nat.le_of_ble_eq_true rfl) dX7_sheet_62 ⟨Nat.zero_le _, Nat.zero_le _⟩) hE (fun H locs hE => ?_)
            refine lv_iload_n hx hb dX7_sheet_65 rfl (lv_at hl 3 rfl) ?_
            exact zr_iret S hE hr hlk h dX7_sheet_66
          · have h := zif' c10009 h
            refine zr_ldcw S qc_X7_293 dX7_sheet_50 ?_
            exact zr_iret S hE hr hlk h dX7_sheet_53
        · have h := zif' c10008 h
          refine zr_ldc S qc_X7_68 dX7_sheet_43 ?_
          exact zr_iret S hE hr hlk h dX7_sheet_45
      · have h := zif c10007 h
        refine lv_aload_n hx hb dX7_sheet_24 rfl (lv_at hl 0 rfl) ?_
        refine zr_getA S hK hE zcl_X7 (zc_0 w10005) 5 (Nat.le_of_ble_eq_true rfl) (q := 39) rfl qf_X7_38 dX7_sheet_25 ?_
        refine lv_iload_n hx hb dX7_sheet_28 rfl (lv_at hl 1 rfl) ?_
        obtain ⟨q10012, eq10012, h⟩ := zbdE h
        refine zr_aald4 S hK hE (zc_39 w10005) dX7_sheet_29 eq10012 ?_
        refine lv_iload_n hx hb dX7_sheet_30 rfl (lv_at hl 2 rfl) ?_
        refine lv_iconst (v := 0) hx hb dX7_sheet_31 (by decide) ?_
        obtain ⟨w10013, ew10013, h⟩ := zbdE h
        refine zr_v (zr_runV (As := [.int a2, .int 0]) S hX hE (kX2_renew l D tc lo ad fr zq q10012 a2 0 w10005 w10013 ew10013) zyX2_renew qm_X7_289 zcl_X2 rfl (zcS0 (zq4_S eq10012) w10005) ⟨rfl, rfl⟩ ⟨Nat.le_of_ble_eq_true rfl, Nat.le_of_ble_eq_true rfl⟩ rfl hl.1 rfl (Nat.le_of_ble_eq_true rfl) dX7_sheet_32 ⟨Nat.zero_le _, Nat.zero_le _⟩) hE (fun H locs hE => ?_)
        refine lv_iconst (v := 0) hx hb dX7_sheet_35 (by decide) ?_
        exact zr_iret S hE hr hlk h dX7_sheet_36
    · have h := zif c10006 h
      refine zr_ldc S qc_X7_68 dX7_sheet_16 ?_
      exact zr_iret S hE hr hlk h dX7_sheet_18
set_option maxHeartbeats 4000000 in
set_option maxRecDepth 100000 in
theorem kX7_trueShareBehind (l : Launch) (D : va_G) (tc : Nat → ClassId) (lo : Nat) (ad : Nat → Nat) (fr : va_W) (zq : zz_Q) (a1 : Int32) (a2 : Int32) (w : zz_W) (r : Int32) (w_ : zz_W) (h : fX7_trueShareBehind a1 a2 w = some (r, w_)) : zMi l yX7_trueShareBehind cX7_trueShareBehind 3 (some .int) { frames := 6, cells := 0, slots := 0, locals := 139 } D tc lo ad zshC znnC fr zq [.ref (ad 0), .int a1, .int a2] w r w_ := by
  refine zr_entry (by decide) (Nat.le_of_ble_eq_true rfl) fun p e s m args below meth c ls S hX hr hlk hE hl => ?_
  have S : CallFix p m c cX7_trueShareBehind 3 s args (Cond.code yX7_trueShareBehind cX7_trueShareBehind 3 (some .int) :: zw_tb) RX7 := S
  have hx := S.1
  have hb := S.2.1
  have hK := hX.2.1
  have hl : lv_has ls 3 [(0, .ref (ad 0)), (1, .int a1), (2, .int a2)] := hl
  unfold fX7_trueShareBehind at h
  refine lv_aload_n hx hb dX7_trueShareBehind_0 rfl (lv_at hl 0 rfl) ?_
  refine zr_getA S hK hE zcl_X7 (zc_0 w) 2 (Nat.le_of_ble_eq_true rfl) (q := 21) rfl qf_X7_19 dX7_trueShareBehind_1 ?_
  refine lv_aload_n hx hb dX7_trueShareBehind_4 rfl (lv_at hl 0 rfl) ?_
  refine zr_getA S hK hE zcl_X7 (zc_0 w) 0 (Nat.le_of_ble_eq_true rfl) (q := 1) rfl qf_X7_10 dX7_trueShareBehind_5 ?_
  obtain ⟨w10001, ew10001, h⟩ := zbdE h
  refine zr_v (zr_runV (As := [.ref (ad 1)]) S hX hE (kX6_takeFrom l D tc lo ad fr zq 21 1 w w10001 ew10001) zyX6_takeFrom qm_X7_241 zcl_X6 rfl (zcW0 zW21 w) ⟨rfl, rfl⟩ ⟨Nat.le_of_ble_eq_true rfl, Nat.le_of_ble_eq_true rfl⟩ rfl hl.1 rfl (Nat.le_of_ble_eq_true rfl) dX7_trueShareBehind_8 ⟨Nat.zero_le _, Nat.zero_le _⟩) hE (fun H locs hE => ?_)
  refine lv_aload_n hx hb dX7_trueShareBehind_11 rfl (lv_at hl 0 rfl) ?_
  refine zr_getA S hK hE zcl_X7 (zc_0 w10001) 2 (Nat.le_of_ble_eq_true rfl) (q := 21) rfl qf_X7_19 dX7_trueShareBehind_12 ?_
  refine lv_iload_n hx hb dX7_trueShareBehind_15 rfl (lv_at hl 2 rfl) ?_
  obtain ⟨w10002, ew10002, h⟩ := zbdE h
  refine zr_putI S hK hE zcl_X6 (zcW0 zW21 w10001) 11 (Nat.le_of_ble_eq_true rfl) rfl rfl rfl qf_X7_154 dX7_trueShareBehind_16 ew10002 (fun H locs hE => ?_)
  refine lv_aload_n hx hb dX7_trueShareBehind_19 rfl (lv_at hl 0 rfl) ?_
  refine zr_getA S hK hE zcl_X7 (zc_0 w10002) 2 (Nat.le_of_ble_eq_true rfl) (q := 21) rfl qf_X7_19 dX7_trueShareBehind_20 ?_
  refine lv_iload_n hx hb dX7_trueShareBehind_23 rfl (lv_at hl 1 rfl) ?_
  obtain ⟨w10003, ew10003, h⟩ := zbdE h
  refine zr_v (zr_runV (As := [.int a1]) S hX hE (kX6_goOn l D tc lo ad fr zq 21 a1 w10002 w10003 ew10003) zyX6_goOn qm_X7_180 zcl_X6 rfl (zcW0 zW21 w10002) ⟨rfl, rfl⟩ ⟨Nat.le_of_ble_eq_true rfl, Nat.le_of_ble_eq_true rfl⟩ rfl hl.1 rfl (Nat.le_of_ble_eq_true rfl) dX7_trueShareBehind_24 ⟨Nat.zero_le _, Nat.zero_le _⟩) hE (fun H locs hE => ?_)
  refine lv_aload_n hx hb dX7_trueShareBehind_27 rfl (lv_at hl 0 rfl) ?_
  refine zr_getA S hK hE zcl_X7 (zc_0 w10003) 2 (Nat.le_of_ble_eq_true rfl) (q := 21) rfl qf_X7_19 dX7_trueShareBehind_28 ?_
  obtain ⟨x10004, w10005, ew10005, h⟩ := zbd2E h
  refine zr_i (zr_runV (As := []) S hX hE (kX6_isBuilt l D tc lo ad fr zq 21 w10003 x10004 w10005 ew10005) zyX6_isBuilt qm_X7_164 zcl_X6 rfl (zcW0 zW21 w10003) ⟨rfl, rfl⟩ ⟨Nat.le_of_ble_eq_true rfl, Nat.le_of_ble_eq_true rfl⟩ rfl hl.1 rfl (Nat.le_of_ble_eq_true rfl) dX7_trueShareBehind_31 ⟨Nat.zero_le _, Nat.zero_le _⟩) hE (fun H locs hE => ?_)
  refine lv_if_eq (tgt := 63) hx hb dX7_trueShareBehind_34 (by decide) (fun c10006 => ?_) (fun c10006 => ?_)
  · have h := zif c10006 h
    refine lv_iconst (v := 0) hx hb dX7_trueShareBehind_63 (by decide) ?_
    exact zr_iret S hE hr hlk h dX7_trueShareBehind_64
  · have h := zif' c10006 h
    refine lv_aload_n hx hb dX7_trueShareBehind_37 rfl (lv_at hl 0 rfl) ?_
    refine zr_getA S hK hE zcl_X7 (zc_0 w10005) 2 (Nat.le_of_ble_eq_true rfl) (q := 21) rfl qf_X7_19 dX7_trueShareBehind_38 ?_
    refine lv_aload_n hx hb dX7_trueShareBehind_41 rfl (lv_at hl 0 rfl) ?_
    refine zr_getA S hK hE zcl_X7 (zc_0 w10005) 2 (Nat.le_of_ble_eq_true rfl) (q := 21) rfl qf_X7_19 dX7_trueShareBehind_42 ?_
    refine zr_getA S hK hE zcl_X6 (zcW0 zW21 w10005) 4 (Nat.le_of_ble_eq_true rfl) (q := 21 + 5) rfl qf_X7_93 dX7_trueShareBehind_45 ?_
    refine lv_aload_n hx hb dX7_trueShareBehind_48 rfl (lv_at hl 0 rfl) ?_
    refine zr_getA S hK hE zcl_X7 (zc_0 w10005) 2 (Nat.le_of_ble_eq_true rfl) (q := 21) rfl qf_X7_19 dX7_trueShareBehind_49 ?_
    obtain ⟨x10007, ex10007, h⟩ := zbdE h
    refine zr_getI S hK hE zcl_X6 (zcW0 zW21 w10005) 10 (Nat.le_of_ble_eq_true rfl) rfl qf_X7_364 dX7_trueShareBehind_52 ex10007 ?_
    obtain ⟨x10008, ex10008, h⟩ := zbdE h
    refine zr_iald S hK hE (zcW5 zW21 w10005) dX7_trueShareBehind_55 ex10008 ?_
    refine lv_i2l hx hb dX7_trueShareBehind_56 rfl ?_
    obtain ⟨x10009, w10010, ew10010, h⟩ := zbd2E h
    refine zr_i (zr_runV (As := [.long (Int32.toInt64 x10008)]) S hX hE (kX6_ofThousand l D tc lo ad fr zq 21 (Int32.toInt64 x10008) w10005 x10009 w10010 ew10010) zyX6_ofThousand qm_X7_196 zcl_X6 rfl (zcW0 zW21 w10005) ⟨rfl, rfl⟩ ⟨Nat.le_of_ble_eq_true rfl, Nat.le_of_ble_eq_true rfl⟩ rfl hl.1 rfl (Nat.le_of_ble_eq_true rfl) dX7_trueShareBehind_57 ⟨Nat.zero_le _, Nat.zero_le _⟩) hE (fun H locs hE => ?_)
    refine lv_goto (tgt := 64) hx hb dX7_trueShareBehind_60 (by decide) ?_
    exact zr_iret S hE hr hlk h dX7_trueShareBehind_64
set_option maxHeartbeats 4000000 in
set_option maxRecDepth 100000 in
theorem kX7_slipped (l : Launch) (D : va_G) (tc : Nat → ClassId) (lo : Nat) (ad : Nat → Nat) (fr : va_W) (zq : zz_Q) (a1 : Int32) (a2 : Int32) (w : zz_W) (r : Int32) (w_ : zz_W) (h : fX7_slipped a1 a2 w = some (r, w_)) : zMi l yX7_slipped cX7_slipped 7 (some .int) { frames := 7, cells := 0, slots := 0, locals := 161 } D tc lo ad zshC znnC fr zq [.ref (ad 0), .int a1, .int a2] w r w_ := by
  refine zr_entry (by decide) (Nat.le_of_ble_eq_true rfl) fun p e s m args below meth c ls S hX hr hlk hE hl => ?_
  have S : CallFix p m c cX7_slipped 7 s args (Cond.code yX7_slipped cX7_slipped 7 (some .int) :: zw_tb) RX7 := S
  have hx := S.1
  have hb := S.2.1
  have hK := hX.2.1
  have hl : lv_has ls 7 [(0, .ref (ad 0)), (1, .int a1), (2, .int a2)] := hl
  unfold fX7_slipped at h
  have L43 : ∀ (n : Nat) (l1 : Int32) (l2 : Int32) (l3 : Int32) (l4 : Int32) (l5 : Int32) (w : zz_W) (ls : Array Slot) (H : Heap) (locs : List Loc), fX7_slipped_43 a1 a2 n l1 l2 l3 l4 l5 w = some (r, w_) → lv_has ls 7 [(0, .ref (ad 0)), (1, .int l1), (2, .int l2), (3, .int l3), (4, .int l4), (5, .int l5)] → zE D tc lo ad zshC znnC fr w s.heap H locs → W p l e { frames := 7, cells := 0, slots := 0, locals := 161 } s m args below meth c H locs 0 0 (zZi D tc lo ad zshC znnC fr below args s r w_) (F0 m 43 ls []) := by
    intro n43
    induction n43 with
    | zero => intro l1 l2 l3 l4 l5 w ls H locs h hl hE; rw [fX7_slipped_43] at h; cases h
    | succ n43 ih43 =>
      intro l1 l2 l3 l4 l5 w ls H locs h hl hE
      rw [fX7_slipped_43] at h
      refine lv_iload hx hb dX7_slipped_43 (lv_at hl 5 rfl) ?_
      refine lv_bipush (v := 49) hx hb dX7_slipped_45 (by decide) ?_
      refine lv_icmp_gt (tgt := 79) hx hb dX7_slipped_47 (by decide) (fun c35 => ?_) (fun c35 => ?_)
      · have h := zif c35 h
        refine lv_iload_n hx hb dX7_slipped_79 rfl (lv_at hl 2 rfl) ?_
        refine lv_if_ne (tgt := 87) hx hb dX7_slipped_80 (by decide) (fun c36 => ?_) (fun c36 => ?_)
        · have h := zif' c36 h
          refine lv_iload hx hb dX7_slipped_87 (lv_at hl 4 rfl) ?_
          exact zr_iret S hE hr hlk h dX7_slipped_89
        · have h := zif c36 h
          refine lv_iload_n hx hb dX7_slipped_83 rfl (lv_at hl 3 rfl) ?_
          refine lv_goto (tgt := 89) hx hb dX7_slipped_84 (by decide) ?_
          exact zr_iret S hE hr hlk h dX7_slipped_89
      · have h := zif' c35 h
        refine lv_aload_n hx hb dX7_slipped_50 rfl (lv_at hl 0 rfl) ?_
        refine lv_iload_n hx hb dX7_slipped_51 rfl (lv_at hl 1 rfl) ?_
        refine lv_iload hx hb dX7_slipped_52 (lv_at hl 5 rfl) ?_
        obtain ⟨x37, w38, ew38, h⟩ := zbd2E h
        refine zr_i (zr_runV (As := [.int l1, .int l5]) S hX hE (kX7_trueShareBehind l D tc lo ad fr zq l1 l5 w x37 w38 ew38) zyX7_trueShareBehind qm_X7_247 zcl_X7 rfl (zc_0 w) ⟨rfl, rfl⟩ ⟨Nat.le_of_ble_eq_true rfl, Nat.le_of_ble_eq_true rfl⟩ rfl hl.1 rfl (Nat.le_of_ble_eq_true rfl) dX7_slipped_54 ⟨Nat.zero_le _, Nat.zero_le _⟩) hE (fun H locs hE => ?_)
        refine lv_istore (lv' := [(6, .int x37), (0, .ref (ad 0)), (1, .int l1), (2, .int l2), (3, .int l3), (4, .int l4), (5, .int l5)]) hx hb dX7_slipped_57 hl (by decide) rfl (fun ls hl => ?_)
        refine lv_iload hx hb dX7_slipped_59 (lv_at hl 0 rfl) ?_
        refine lv_iload hx hb dX7_slipped_61 (lv_at hl 5 rfl) ?_
        refine lv_icmp_le (tgt := 73) hx hb dX7_slipped_63 (by decide) (fun c39 => ?_) (fun c39 => ?_)
        · have h := zif c39 h
          obtain ⟨x40, ex40, h⟩ := zbdE h
          refine lv_iinc (v := x40) (lv' := [(5, .int x40), (6, .int x37), (0, .ref (ad 0)), (1, .int l1), (2, .int l2), (3, .int l3), (4, .int l4)]) hx hb dX7_slipped_73 hl (k := 6) rfl (zinc (k := 1) (by decide) ex40) (by decide) rfl (fun ls hl => ?_)
          refine lv_goto (tgt := 43) hx hb dX7_slipped_76 (by decide) ?_
          exact ih43 l1 l2 l3 l4 x40 w38 ls _ _ h (lv_sub hl [2, 3, 4, 5, 6, 0] rfl) hE
        · have h := zif' c39 h
          refine lv_iload hx hb dX7_slipped_66 (lv_at hl 6 rfl) ?_
          refine lv_istore_n (lv' := [(3, .int l5), (6, .int x37), (0, .ref (ad 0)), (1, .int l1), (2, .int l2), (4, .int l4), (5, .int l5)]) hx hb dX7_slipped_68 rfl hl (by decide) rfl (fun ls hl => ?_)
          refine lv_iload hx hb dX7_slipped_69 (lv_at hl 1 rfl) ?_
          refine lv_istore (lv' := [(4, .int x37), (3, .int l5), (6, .int x37), (0, .ref (ad 0)), (1, .int l1), (2, .int l2), (5, .int l5)]) hx hb dX7_slipped_71 hl (by decide) rfl (fun ls hl => ?_)
          obtain ⟨x41, ex41, h⟩ := zbdE h
          refine lv_iinc (v := x41) (lv' := [(5, .int x41), (4, .int x37), (3, .int l5), (6, .int x37), (0, .ref (ad 0)), (1, .int l1), (2, .int l2)]) hx hb dX7_slipped_73 hl (k := 6) rfl (zinc (k := 1) (by decide) ex41) (by decide) rfl (fun ls hl => ?_)
          refine lv_goto (tgt := 43) hx hb dX7_slipped_76 (by decide) ?_
          exact ih43 l1 l2 l5 x37 x41 w38 ls _ _ h (lv_sub hl [4, 5, 6, 2, 1, 0] rfl) hE
  refine lv_iload_n hx hb dX7_slipped_0 rfl (lv_at hl 1 rfl) ?_
  refine lv_iconst (v := 1) hx hb dX7_slipped_1 (by decide) ?_
  refine lv_bipush (v := 30) hx hb dX7_slipped_2 (by decide) ?_
  obtain ⟨x10001, w10002, ew10002, h⟩ := zbd2E h
  refine zr_i (zr_runS (As := [.int a1, .int 1, .int 30]) S hX hE (kX7_within l D tc lo ad fr zq a1 1 30 w x10001 w10002 ew10002) zyX7_within qm_X7_61 ⟨rfl, rfl⟩ ⟨Nat.le_of_ble_eq_true rfl, Nat.le_of_ble_eq_true rfl⟩ rfl hl.1 rfl (Nat.le_of_ble_eq_true rfl) dX7_slipped_4 ⟨Nat.zero_le _, Nat.zero_le _⟩) hE (fun H locs hE => ?_)
  refine lv_if_eq (tgt := 19) hx hb dX7_slipped_7 (by decide) (fun c10003 => ?_) (fun c10003 => ?_)
  · have h := zif c10003 h
    refine zr_ldc S qc_X7_68 dX7_slipped_19 ?_
    exact zr_iret S hE hr hlk h dX7_slipped_21
  · have h := zif' c10003 h
    refine lv_iload_n hx hb dX7_slipped_10 rfl (lv_at hl 2 rfl) ?_
    refine lv_iconst (v := 0) hx hb dX7_slipped_11 (by decide) ?_
    refine lv_iconst (v := 1) hx hb dX7_slipped_12 (by decide) ?_
    obtain ⟨x10004, w10005, ew10005, h⟩ := zbd2E h
    refine zr_i (zr_runS (As := [.int a2, .int 0, .int 1]) S hX hE (kX7_within l D tc lo ad fr zq a2 0 1 w10002 x10004 w10005 ew10005) zyX7_within qm_X7_61 ⟨rfl, rfl⟩ ⟨Nat.le_of_ble_eq_true rfl, Nat.le_of_ble_eq_true rfl⟩ rfl hl.1 rfl (Nat.le_of_ble_eq_true rfl) dX7_slipped_13 ⟨Nat.zero_le _, Nat.zero_le _⟩) hE (fun H locs hE => ?_)
    refine lv_if_ne (tgt := 22) hx hb dX7_slipped_16 (by decide) (fun c10006 => ?_) (fun c10006 => ?_)
    · have h := zif' c10006 h
      refine lv_aload_n hx hb dX7_slipped_22 rfl (lv_at hl 0 rfl) ?_
      refine zr_getA S hK hE zcl_X7 (zc_0 w10005) 0 (Nat.le_of_ble_eq_true rfl) (q := 1) rfl qf_X7_10 dX7_slipped_23 ?_
      obtain ⟨x10007, w10008, ew10008, h⟩ := zbd2E h
      refine zr_i (zr_runV (As := []) S hX hE (kX6_isBuilt l D tc lo ad fr zq 1 w10005 x10007 w10008 ew10008) zyX6_isBuilt qm_X7_164 zcl_X6 rfl (zcW0 zW1 w10005) ⟨rfl, rfl⟩ ⟨Nat.le_of_ble_eq_true rfl, Nat.le_of_ble_eq_true rfl⟩ rfl hl.1 rfl (Nat.le_of_ble_eq_true rfl) dX7_slipped_26 ⟨Nat.zero_le _, Nat.zero_le _⟩) hE (fun H locs hE => ?_)
      refine lv_if_ne (tgt := 35) hx hb dX7_slipped_29 (by decide) (fun c10009 => ?_) (fun c10009 => ?_)
      · have h := zif' c10009 h
        refine lv_iconst (v := 0) hx hb dX7_slipped_35 (by decide) ?_
        refine lv_istore_n (lv' := [(3, .int 0), (0, .ref (ad 0)), (1, .int a1), (2, .int a2)]) hx hb dX7_slipped_36 rfl hl (by decide) rfl (fun ls hl => ?_)
        refine lv_iconst (v := (-1)) hx hb dX7_slipped_37 (by decide) ?_
        obtain ⟨x10010, ex10010, h⟩ := zbdE h
        refine zr_topi ex10010 ?_
        refine lv_istore (lv' := [(4, .int x10010), (3, .int 0), (0, .ref (ad 0)), (1, .int a1), (2, .int a2)]) hx hb dX7_slipped_38 hl (by decide) rfl (fun ls hl => ?_)
        refine lv_iconst (v := 0) hx hb dX7_slipped_40 (by decide) ?_
        refine lv_istore (lv' := [(5, .int 0), (4, .int x10010), (3, .int 0), (0, .ref (ad 0)), (1, .int a1), (2, .int a2)]) hx hb dX7_slipped_41 hl (by decide) rfl (fun ls hl => ?_)
        exact L43 zfuel a1 a2 0 x10010 0 w10008 ls _ _ h (lv_sub hl [3, 4, 5, 2, 1, 0] rfl) hE
      · have h := zif c10009 h
        refine zr_ldc S qc_X7_160 dX7_slipped_32 ?_
        exact zr_iret S hE hr hlk h dX7_slipped_34
    · have h := zif c10006 h
      refine zr_ldc S qc_X7_68 dX7_slipped_19 ?_
      exact zr_iret S hE hr hlk h dX7_slipped_21
set_option maxHeartbeats 4000000 in
set_option maxRecDepth 100000 in
theorem kX7_steps (l : Launch) (D : va_G) (tc : Nat → ClassId) (lo : Nat) (ad : Nat → Nat) (fr : va_W) (zq : zz_Q) (a1 : Int32) (w : zz_W) (r : Int32) (w_ : zz_W) (h : fX7_steps a1 w = some (r, w_)) : zMi l yX7_steps cX7_steps 3 (some .int) { frames := 6, cells := 0, slots := 0, locals := 139 } D tc lo ad zshC znnC fr zq [.ref (ad 0), .int a1] w r w_ := by
  refine zr_entry (by decide) (Nat.le_of_ble_eq_true rfl) fun p e s m args below meth c ls S hX hr hlk hE hl => ?_
  have S : CallFix p m c cX7_steps 3 s args (Cond.code yX7_steps cX7_steps 3 (some .int) :: zw_tb) RX7 := S
  have hx := S.1
  have hb := S.2.1
  have hK := hX.2.1
  have hl : lv_has ls 3 [(0, .ref (ad 0)), (1, .int a1)] := hl
  unfold fX7_steps at h
  refine lv_iload_n hx hb dX7_steps_0 rfl (lv_at hl 1 rfl) ?_
  refine lv_iconst (v := 1) hx hb dX7_steps_1 (by decide) ?_
  refine lv_bipush (v := 100) hx hb dX7_steps_2 (by decide) ?_
  obtain ⟨x10001, w10002, ew10002, h⟩ := zbd2E h
  refine zr_i (zr_runS (As := [.int a1, .int 1, .int 100]) S hX hE (kX7_within l D tc lo ad fr zq a1 1 100 w x10001 w10002 ew10002) zyX7_within qm_X7_61 ⟨rfl, rfl⟩ ⟨Nat.le_of_ble_eq_true rfl, Nat.le_of_ble_eq_true rfl⟩ rfl hl.1 rfl (Nat.le_of_ble_eq_true rfl) dX7_steps_4 ⟨Nat.zero_le _, Nat.zero_le _⟩) hE (fun H locs hE => ?_)
  refine lv_if_ne (tgt := 13) hx hb dX7_steps_7 (by decide) (fun c10003 => ?_) (fun c10003 => ?_)
  · have h := zif' c10003 h
    refine lv_aload_n hx hb dX7_steps_13 rfl (lv_at hl 0 rfl) ?_
    refine zr_getA S hK hE zcl_X7 (zc_0 w10002) 0 (Nat.le_of_ble_eq_true rfl) (q := 1) rfl qf_X7_10 dX7_steps_14 ?_
    refine zr_getA S hK hE zcl_X6 (zcW0 zW1 w10002) 6 (Nat.le_of_ble_eq_true rfl) (q := 1 + 7) rfl qf_X7_174 dX7_steps_17 ?_
    refine lv_iconst (v := 4) hx hb dX7_steps_20 (by decide) ?_
    obtain ⟨x10004, ex10004, h⟩ := zbdE h
    refine zr_iald S hK hE (zcW7 zW1 w10002) dX7_steps_21 ex10004 ?_
    refine lv_istore_n (lv' := [(2, .int x10004), (0, .ref (ad 0)), (1, .int a1)]) hx hb dX7_steps_22 rfl hl (by decide) rfl (fun ls hl => ?_)
    refine lv_aload_n hx hb dX7_steps_23 rfl (lv_at hl 1 rfl) ?_
    refine zr_getA S hK hE zcl_X7 (zc_0 w10002) 0 (Nat.le_of_ble_eq_true rfl) (q := 1) rfl qf_X7_10 dX7_steps_24 ?_
    refine lv_iload_n hx hb dX7_steps_27 rfl (lv_at hl 2 rfl) ?_
    refine lv_sipush (v := 9999) hx hb dX7_steps_28 (by decide) ?_
    refine lv_aload_n hx hb dX7_steps_31 rfl (lv_at hl 1 rfl) ?_
    refine zr_getA S hK hE zcl_X7 (zc_0 w10002) 0 (Nat.le_of_ble_eq_true rfl) (q := 1) rfl qf_X7_10 dX7_steps_32 ?_
    obtain ⟨x10005, ex10005, h⟩ := zbdE h
    refine zr_getI S hK hE zcl_X6 (zcW0 zW1 w10002) 13 (Nat.le_of_ble_eq_true rfl) rfl qf_X7_177 dX7_steps_35 ex10005 ?_
    refine lv_isub hx hb dX7_steps_38 ?_
    refine zr_mmin S zmath qm_X7_143 hl.1 ⟨Nat.le_of_ble_eq_true rfl, Nat.le_of_ble_eq_true rfl, Nat.zero_le _, Nat.zero_le _⟩ dX7_steps_39 ?_
    obtain ⟨w10006, ew10006, h⟩ := zbdE h
    refine zr_v (zr_runV (As := [.int (zmin a1 (9999 - x10005))]) S hX hE (kX6_goOn l D tc lo ad fr zq 1 (zmin a1 (9999 - x10005)) w10002 w10006 ew10006) zyX6_goOn qm_X7_180 zcl_X6 rfl (zcW0 zW1 w10002) ⟨rfl, rfl⟩ ⟨Nat.le_of_ble_eq_true rfl, Nat.le_of_ble_eq_true rfl⟩ rfl hl.1 rfl (Nat.le_of_ble_eq_true rfl) dX7_steps_42 ⟨Nat.zero_le _, Nat.zero_le _⟩) hE (fun H locs hE => ?_)
    refine lv_aload_n hx hb dX7_steps_45 rfl (lv_at hl 1 rfl) ?_
    refine zr_getA S hK hE zcl_X7 (zc_0 w10006) 0 (Nat.le_of_ble_eq_true rfl) (q := 1) rfl qf_X7_10 dX7_steps_46 ?_
    refine zr_getA S hK hE zcl_X6 (zcW0 zW1 w10006) 6 (Nat.le_of_ble_eq_true rfl) (q := 1 + 7) rfl qf_X7_174 dX7_steps_49 ?_
    refine lv_iconst (v := 4) hx hb dX7_steps_52 (by decide) ?_
    obtain ⟨x10007, ex10007, h⟩ := zbdE h
    refine zr_iald S hK hE (zcW7 zW1 w10006) dX7_steps_53 ex10007 ?_
    refine lv_iload_n hx hb dX7_steps_54 rfl (lv_at hl 0 rfl) ?_
    refine lv_isub hx hb dX7_steps_55 ?_
    exact zr_iret S hE hr hlk h dX7_steps_56
  · have h := zif c10003 h
    refine zr_ldc S qc_X7_68 dX7_steps_10 ?_
    exact zr_iret S hE hr hlk h dX7_steps_12
set_option maxHeartbeats 4000000 in
set_option maxRecDepth 100000 in
theorem kX7_tell (l : Launch) (D : va_G) (tc : Nat → ClassId) (lo : Nat) (ad : Nat → Nat) (fr : va_W) (zq : zz_Q) (a1 : Int32) (w : zz_W) (r : Int32) (w_ : zz_W) (h : fX7_tell a1 w = some (r, w_)) : zMi l yX7_tell cX7_tell 2 (some .int) { frames := 0, cells := 0, slots := 0, locals := 0 } D tc lo ad zshC znnC fr zq [.ref (ad 0), .int a1] w r w_ := by
  refine zr_entry (by decide) (Nat.le_of_ble_eq_true rfl) fun p e s m args below meth c ls S hX hr hlk hE hl => ?_
  have S : CallFix p m c cX7_tell 2 s args (Cond.code yX7_tell cX7_tell 2 (some .int) :: zw_tb) RX7 := S
  have hx := S.1
  have hb := S.2.1
  have hK := hX.2.1
  have hl : lv_has ls 2 [(0, .ref (ad 0)), (1, .int a1)] := hl
  unfold fX7_tell at h
  refine lv_aload_n hx hb dX7_tell_0 rfl (lv_at hl 0 rfl) ?_
  obtain ⟨x10001, ex10001, h⟩ := zbdE h
  refine zr_getI S hK hE zcl_X7 (zc_0 w) 9 (Nat.le_of_ble_eq_true rfl) rfl qf_X7_344 dX7_tell_1 ex10001 ?_
  refine lv_bipush (v := 60) hx hb dX7_tell_4 (by decide) ?_
  refine lv_icmp_lt (tgt := 12) hx hb dX7_tell_6 (by decide) (fun c10002 => ?_) (fun c10002 => ?_)
  · have h := zif c10002 h
    refine lv_aload_n hx hb dX7_tell_12 rfl (lv_at hl 0 rfl) ?_
    refine zr_getA S hK hE zcl_X7 (zc_0 w) 7 (Nat.le_of_ble_eq_true rfl) (q := 41) rfl qf_X7_48 dX7_tell_13 ?_
    refine lv_aload_n hx hb dX7_tell_16 rfl (lv_at hl 0 rfl) ?_
    obtain ⟨x10003, ex10003, h⟩ := zbdE h
    refine zr_getI S hK hE zcl_X7 (zc_0 w) 9 (Nat.le_of_ble_eq_true rfl) rfl qf_X7_344 dX7_tell_17 ex10003 ?_
    refine lv_iload_n hx hb dX7_tell_20 rfl (lv_at hl 1 rfl) ?_
    obtain ⟨w10004, ew10004, h⟩ := zbdE h
    refine zr_iast S hK hE (zc_41 w) dX7_tell_21 ew10004 (fun H locs hE => ?_)
    refine lv_aload_n hx hb dX7_tell_22 rfl (lv_at hl 0 rfl) ?_
    refine lv_dup hx hb dX7_tell_23 rfl ?_
    obtain ⟨x10005, ex10005, h⟩ := zbdE h
    refine zr_getI S hK hE zcl_X7 (zc_0 w10004) 9 (Nat.le_of_ble_eq_true rfl) rfl qf_X7_344 dX7_tell_24 ex10005 ?_
    refine lv_iconst (v := 1) hx hb dX7_tell_27 (by decide) ?_
    refine lv_iadd hx hb dX7_tell_28 ?_
    obtain ⟨w10006, ew10006, h⟩ := zbdE h
    refine zr_putI S hK hE zcl_X7 (zc_0 w10004) 9 (Nat.le_of_ble_eq_true rfl) rfl rfl rfl qf_X7_344 dX7_tell_29 ew10006 (fun H locs hE => ?_)
    refine lv_aload_n hx hb dX7_tell_32 rfl (lv_at hl 0 rfl) ?_
    obtain ⟨x10007, ex10007, h⟩ := zbdE h
    refine zr_getI S hK hE zcl_X7 (zc_0 w10006) 9 (Nat.le_of_ble_eq_true rfl) rfl qf_X7_344 dX7_tell_33 ex10007 ?_
    exact zr_iret S hE hr hlk h dX7_tell_36
  · have h := zif' c10002 h
    refine zr_ldc S qc_X7_73 dX7_tell_9 ?_
    exact zr_iret S hE hr hlk h dX7_tell_11
set_option maxHeartbeats 4000000 in
set_option maxRecDepth 100000 in
theorem kX7_tells (l : Launch) (D : va_G) (tc : Nat → ClassId) (lo : Nat) (ad : Nat → Nat) (fr : va_W) (zq : zz_Q) (a1 : Int32) (a2 : Int32) (a3 : Int32) (w : zz_W) (r : Int32) (w_ : zz_W) (h : fX7_tells a1 a2 a3 w = some (r, w_)) : zMi l yX7_tells cX7_tells 4 (some .int) { frames := 2, cells := 0, slots := 0, locals := 48 } D tc lo ad zshC znnC fr zq [.ref (ad 0), .int a1, .int a2, .int a3] w r w_ := by
  refine zr_entry (by decide) (Nat.le_of_ble_eq_true rfl) fun p e s m args below meth c ls S hX hr hlk hE hl => ?_
  have S : CallFix p m c cX7_tells 4 s args (Cond.code yX7_tells cX7_tells 4 (some .int) :: zw_tb) RX7 := S
  have hx := S.1
  have hb := S.2.1
  have hK := hX.2.1
  have hl : lv_has ls 4 [(0, .ref (ad 0)), (1, .int a1), (2, .int a2), (3, .int a3)] := hl
  unfold fX7_tells at h
  refine lv_aload_n hx hb dX7_tells_0 rfl (lv_at hl 0 rfl) ?_
  refine zr_getA S hK hE zcl_X7 (zc_0 w) 0 (Nat.le_of_ble_eq_true rfl) (q := 1) rfl qf_X7_10 dX7_tells_1 ?_
  refine lv_iload_n hx hb dX7_tells_4 rfl (lv_at hl 1 rfl) ?_
  obtain ⟨x10001, w10002, ew10002, h⟩ := zbd2E h
  refine zr_i (zr_runV (As := [.int a1]) S hX hE (kX6_isRun l D tc lo ad fr zq 1 a1 w x10001 w10002 ew10002) zyX6_isRun qm_X7_78 zcl_X6 rfl (zcW0 zW1 w) ⟨rfl, rfl⟩ ⟨Nat.le_of_ble_eq_true rfl, Nat.le_of_ble_eq_true rfl⟩ rfl hl.1 rfl (Nat.le_of_ble_eq_true rfl) dX7_tells_5 ⟨Nat.zero_le _, Nat.zero_le _⟩) hE (fun H locs hE => ?_)
  refine lv_if_eq (tgt := 25) hx hb dX7_tells_8 (by decide) (fun c10003 => ?_) (fun c10003 => ?_)
  · have h := zif c10003 h
    refine zr_ldc S qc_X7_68 dX7_tells_25 ?_
    exact zr_iret S hE hr hlk h dX7_tells_27
  · have h := zif' c10003 h
    refine lv_iload_n hx hb dX7_tells_11 rfl (lv_at hl 2 rfl) ?_
    obtain ⟨x10004, w10005, ew10005, h⟩ := zbd2E h
    refine zr_i (zr_runS (As := [.int a2]) S hX hE (kX7_isSort l D tc lo ad fr zq a2 w10002 x10004 w10005 ew10005) zyX7_isSort qm_X7_136 ⟨rfl, rfl⟩ ⟨Nat.le_of_ble_eq_true rfl, Nat.le_of_ble_eq_true rfl⟩ rfl hl.1 rfl (Nat.le_of_ble_eq_true rfl) dX7_tells_12 ⟨Nat.zero_le _, Nat.zero_le _⟩) hE (fun H locs hE => ?_)
    refine lv_if_eq (tgt := 25) hx hb dX7_tells_15 (by decide) (fun c10006 => ?_) (fun c10006 => ?_)
    · have h := zif c10006 h
      refine zr_ldc S qc_X7_68 dX7_tells_25 ?_
      exact zr_iret S hE hr hlk h dX7_tells_27
    · have h := zif' c10006 h
      refine lv_iload_n hx hb dX7_tells_18 rfl (lv_at hl 3 rfl) ?_
      obtain ⟨x10007, w10008, ew10008, h⟩ := zbd2E h
      refine zr_i (zr_runS (As := [.int a3]) S hX hE (kX7_isCell l D tc lo ad fr zq a3 w10005 x10007 w10008 ew10008) zyX7_isCell qm_X7_58 ⟨rfl, rfl⟩ ⟨Nat.le_of_ble_eq_true rfl, Nat.le_of_ble_eq_true rfl⟩ rfl hl.1 rfl (Nat.le_of_ble_eq_true rfl) dX7_tells_19 ⟨Nat.zero_le _, Nat.zero_le _⟩) hE (fun H locs hE => ?_)
      refine lv_if_ne (tgt := 28) hx hb dX7_tells_22 (by decide) (fun c10009 => ?_) (fun c10009 => ?_)
      · have h := zif' c10009 h
        refine lv_aload_n hx hb dX7_tells_28 rfl (lv_at hl 0 rfl) ?_
        refine zr_getA S hK hE zcl_X7 (zc_0 w10008) 0 (Nat.le_of_ble_eq_true rfl) (q := 1) rfl qf_X7_10 dX7_tells_29 ?_
        refine lv_iload_n hx hb dX7_tells_32 rfl (lv_at hl 1 rfl) ?_
        refine lv_iload_n hx hb dX7_tells_33 rfl (lv_at hl 2 rfl) ?_
        refine lv_iload_n hx hb dX7_tells_34 rfl (lv_at hl 3 rfl) ?_
        obtain ⟨x10010, w10011, ew10011, h⟩ := zbd2E h
        refine zr_i (zr_runV (As := [.int a1, .int a2, .int a3]) S hX hE (kX6_wouldTell l D tc lo ad fr zq 1 a1 a2 a3 w10008 x10010 w10011 ew10011) zyX6_wouldTell qm_X7_139 zcl_X6 rfl (zcW0 zW1 w10008) ⟨rfl, rfl⟩ ⟨Nat.le_of_ble_eq_true rfl, Nat.le_of_ble_eq_true rfl⟩ rfl hl.1 rfl (Nat.le_of_ble_eq_true rfl) dX7_tells_35 ⟨Nat.zero_le _, Nat.zero_le _⟩) hE (fun H locs hE => ?_)
        exact zr_iret S hE hr hlk h dX7_tells_38
      · have h := zif c10009 h
        refine zr_ldc S qc_X7_68 dX7_tells_25 ?_
        exact zr_iret S hE hr hlk h dX7_tells_27
set_option maxHeartbeats 4000000 in
set_option maxRecDepth 100000 in
theorem kX7_textTold (l : Launch) (D : va_G) (tc : Nat → ClassId) (lo : Nat) (ad : Nat → Nat) (fr : va_W) (zq : zz_Q) (a1 : Int32) (a2 : Int32) (w : zz_W) (r : Int32) (w_ : zz_W) (h : fX7_textTold a1 a2 w = some (r, w_)) : zMi l yX7_textTold cX7_textTold 4 (some .int) { frames := 1, cells := 0, slots := 0, locals := 22 } D tc lo ad zshC znnC fr zq [.ref (ad 0), .int a1, .int a2] w r w_ := by
  refine zr_entry (by decide) (Nat.le_of_ble_eq_true rfl) fun p e s m args below meth c ls S hX hr hlk hE hl => ?_
  have S : CallFix p m c cX7_textTold 4 s args (Cond.code yX7_textTold cX7_textTold 4 (some .int) :: zw_tb) RX7 := S
  have hx := S.1
  have hb := S.2.1
  have hK := hX.2.1
  have hl : lv_has ls 4 [(0, .ref (ad 0)), (1, .int a1), (2, .int a2)] := hl
  unfold fX7_textTold at h
  refine lv_iload_n hx hb dX7_textTold_0 rfl (lv_at hl 1 rfl) ?_
  refine lv_iconst (v := 0) hx hb dX7_textTold_1 (by decide) ?_
  refine lv_aload_n hx hb dX7_textTold_2 rfl (lv_at hl 0 rfl) ?_
  refine zr_getA S hK hE zcl_X7 (zc_0 w) 0 (Nat.le_of_ble_eq_true rfl) (q := 1) rfl qf_X7_10 dX7_textTold_3 ?_
  obtain ⟨x10001, ex10001, h⟩ := zbdE h
  refine zr_getI S hK hE zcl_X6 (zcW0 zW1 w) 15 (Nat.le_of_ble_eq_true rfl) rfl qf_X7_263 dX7_textTold_6 ex10001 ?_
  refine lv_iconst (v := 1) hx hb dX7_textTold_9 (by decide) ?_
  refine lv_isub hx hb dX7_textTold_10 ?_
  obtain ⟨x10002, w10003, ew10003, h⟩ := zbd2E h
  refine zr_i (zr_runS (As := [.int a1, .int 0, .int (x10001 - 1)]) S hX hE (kX7_within l D tc lo ad fr zq a1 0 (x10001 - 1) w x10002 w10003 ew10003) zyX7_within qm_X7_61 ⟨rfl, rfl⟩ ⟨Nat.le_of_ble_eq_true rfl, Nat.le_of_ble_eq_true rfl⟩ rfl hl.1 rfl (Nat.le_of_ble_eq_true rfl) dX7_textTold_11 ⟨Nat.zero_le _, Nat.zero_le _⟩) hE (fun H locs hE => ?_)
  refine lv_if_eq (tgt := 26) hx hb dX7_textTold_14 (by decide) (fun c10004 => ?_) (fun c10004 => ?_)
  · have h := zif c10004 h
    refine zr_ldc S qc_X7_68 dX7_textTold_26 ?_
    exact zr_iret S hE hr hlk h dX7_textTold_28
  · have h := zif' c10004 h
    refine lv_iload_n hx hb dX7_textTold_17 rfl (lv_at hl 2 rfl) ?_
    refine lv_iconst (v := 0) hx hb dX7_textTold_18 (by decide) ?_
    refine lv_iconst (v := 1) hx hb dX7_textTold_19 (by decide) ?_
    obtain ⟨x10005, w10006, ew10006, h⟩ := zbd2E h
    refine zr_i (zr_runS (As := [.int a2, .int 0, .int 1]) S hX hE (kX7_within l D tc lo ad fr zq a2 0 1 w10003 x10005 w10006 ew10006) zyX7_within qm_X7_61 ⟨rfl, rfl⟩ ⟨Nat.le_of_ble_eq_true rfl, Nat.le_of_ble_eq_true rfl⟩ rfl hl.1 rfl (Nat.le_of_ble_eq_true rfl) dX7_textTold_20 ⟨Nat.zero_le _, Nat.zero_le _⟩) hE (fun H locs hE => ?_)
    refine lv_if_ne (tgt := 29) hx hb dX7_textTold_23 (by decide) (fun c10007 => ?_) (fun c10007 => ?_)
    · have h := zif' c10007 h
      refine lv_aload_n hx hb dX7_textTold_29 rfl (lv_at hl 0 rfl) ?_
      refine zr_getA S hK hE zcl_X7 (zc_0 w10006) 0 (Nat.le_of_ble_eq_true rfl) (q := 1) rfl qf_X7_10 dX7_textTold_30 ?_
      refine zr_getA S hK hE zcl_X6 (zcW0 zW1 w10006) 7 (Nat.le_of_ble_eq_true rfl) (q := 1 + 8) rfl qf_X7_274 dX7_textTold_33 ?_
      refine lv_iload_n hx hb dX7_textTold_36 rfl (lv_at hl 1 rfl) ?_
      obtain ⟨o10008, eo10008, h⟩ := zbdE h
      refine zr_aald6 S hK hE (zcW8 zW1 w10006) dX7_textTold_37 eo10008 ?_
      cases o10008 with
      | none =>
        have h := zoptN h
        refine W.eq (g2 := F0 m 38 ls [.null]) rfl ?_
        refine lv_astore_nN (lv' := [(3, .null), (0, .ref (ad 0)), (1, .int a1), (2, .int a2)]) hx hb dX7_textTold_38 rfl hl (by decide) rfl (fun ls hl => ?_)
        refine lv_aload_nN hx hb dX7_textTold_39 rfl (lv_at hl 0 rfl) ?_
        refine lv_ifnonnullN hx hb dX7_textTold_40 ?_
        refine zr_ldc S qc_X7_68 dX7_textTold_43 ?_
        exact zr_iret S hE hr hlk h dX7_textTold_45
      | some q10009 =>
        have h := zoptS h
        refine W.eq (g2 := F0 m 38 ls [.ref (ad q10009)]) rfl ?_
        refine lv_astore_n (lv' := [(3, .ref (ad q10009)), (0, .ref (ad 0)), (1, .int a1), (2, .int a2)]) hx hb dX7_textTold_38 rfl hl (by decide) rfl (fun ls hl => ?_)
        refine lv_aload_n hx hb dX7_textTold_39 rfl (lv_at hl 0 rfl) ?_
        refine lv_ifnonnull (tgt := 46) hx hb dX7_textTold_40 (by decide) ?_
        refine lv_iload_n hx hb dX7_textTold_46 rfl (lv_at hl 3 rfl) ?_
        refine lv_if_ne (tgt := 57) hx hb dX7_textTold_47 (by decide) (fun c10010 => ?_) (fun c10010 => ?_)
        · have h := zif' c10010 h
          refine lv_aload_n hx hb dX7_textTold_57 rfl (lv_at hl 0 rfl) ?_
          obtain ⟨hg10011, h⟩ := zgrdE h
          obtain ⟨x10012, ex10012, h⟩ := zbdE h
          refine zr_getI S hK hE zcl_X5 (zcT0 (w := w10006) hg10011) 1 (Nat.le_of_ble_eq_true rfl) rfl qf_X7_283 dX7_textTold_58 ex10012 ?_
          exact zr_iret S hE hr hlk h dX7_textTold_61
        · have h := zif c10010 h
          refine lv_aload_n hx hb dX7_textTold_50 rfl (lv_at hl 0 rfl) ?_
          obtain ⟨hg10013, h⟩ := zgrdE h
          obtain ⟨x10014, ex10014, h⟩ := zbdE h
          refine zr_getI S hK hE zcl_X5 (zcT0 (w := w10006) hg10013) 0 (Nat.le_of_ble_eq_true rfl) rfl qf_X7_278 dX7_textTold_51 ex10014 ?_
          refine lv_goto (tgt := 61) hx hb dX7_textTold_54 (by decide) ?_
          exact zr_iret S hE hr hlk h dX7_textTold_61
    · have h := zif c10007 h
      refine zr_ldc S qc_X7_68 dX7_textTold_26 ?_
      exact zr_iret S hE hr hlk h dX7_textTold_28
set_option maxHeartbeats 4000000 in
set_option maxRecDepth 100000 in
theorem kJ13_bitCount_95d88 (l : Launch) (D : va_G) (tc : Nat → ClassId) (lo : Nat) (ad : Nat → Nat) (fr : va_W) (zq : zz_Q) (a1 : Int64) (w : zz_W) (r : Int32) (w_ : zz_W) (h : fJ13_bitCount_95d88 a1 w = some (r, w_)) : zMi l yJ13_bitCount_95d88 cJ13_bitCount_95d88 2 (some .int) { frames := 0, cells := 0, slots := 0, locals := 0 } D tc lo ad zshC znnC fr zq [.long a1] w r w_ := by
  refine zr_entry (by decide) (Nat.le_of_ble_eq_true rfl) fun p e s m args below meth c ls S hX hr hlk hE hl => ?_
  have S : CallFix p m c cJ13_bitCount_95d88 2 s args (Cond.code yJ13_bitCount_95d88 cJ13_bitCount_95d88 2 (some .int) :: zw_tb) RJ13 := S
  have hx := S.1
  have hb := S.2.1
  have hK := hX.2.1
  have hl : lv_has ls 2 [(0, .long a1)] := hl
  unfold fJ13_bitCount_95d88 at h
  refine lv_lload_n hx hb dJ13_bitCount_95d88_0 rfl (lv_at hl 0 rfl) ?_
  refine lv_lload_n hx hb dJ13_bitCount_95d88_1 rfl (lv_at hl 0 rfl) ?_
  refine lv_iconst (v := 1) hx hb dJ13_bitCount_95d88_2 (by decide) ?_
  refine lv_lushr hx hb dJ13_bitCount_95d88_3 rfl ?_
  refine zr_ldc2 S qd_J13_314 dJ13_bitCount_95d88_4 ?_
  refine lv_land hx hb dJ13_bitCount_95d88_7 ?_
  refine lv_lsub hx hb dJ13_bitCount_95d88_8 ?_
  obtain ⟨x10001, ex10001, h⟩ := zbdE h
  refine zr_topl ex10001 ?_
  refine lv_lstore_n (lv' := [(0, .long x10001)]) hx hb dJ13_bitCount_95d88_9 rfl hl (by decide) rfl (fun ls hl => ?_)
  refine lv_lload_n hx hb dJ13_bitCount_95d88_10 rfl (lv_at hl 0 rfl) ?_
  refine zr_ldc2 S qd_J13_316 dJ13_bitCount_95d88_11 ?_
  refine lv_land hx hb dJ13_bitCount_95d88_14 ?_
  refine lv_lload_n hx hb dJ13_bitCount_95d88_15 rfl (lv_at hl 0 rfl) ?_
  refine lv_iconst (v := 2) hx hb dJ13_bitCount_95d88_16 (by decide) ?_
  refine lv_lushr hx hb dJ13_bitCount_95d88_17 rfl ?_
  refine zr_ldc2 S qd_J13_316 dJ13_bitCount_95d88_18 ?_
  refine lv_land hx hb dJ13_bitCount_95d88_21 ?_
  refine lv_ladd hx hb dJ13_bitCount_95d88_22 ?_
  obtain ⟨x10002, ex10002, h⟩ := zbdE h
  refine zr_topl ex10002 ?_
  refine lv_lstore_n (lv' := [(0, .long x10002)]) hx hb dJ13_bitCount_95d88_23 rfl hl (by decide) rfl (fun ls hl => ?_)
  refine lv_lload_n hx hb dJ13_bitCount_95d88_24 rfl (lv_at hl 0 rfl) ?_
  refine lv_lload_n hx hb dJ13_bitCount_95d88_25 rfl (lv_at hl 0 rfl) ?_
  refine lv_iconst (v := 4) hx hb dJ13_bitCount_95d88_26 (by decide) ?_
  refine lv_lushr hx hb dJ13_bitCount_95d88_27 rfl ?_
  refine lv_ladd hx hb dJ13_bitCount_95d88_28 ?_
  refine zr_ldc2 S qd_J13_318 dJ13_bitCount_95d88_29 ?_
  refine lv_land hx hb dJ13_bitCount_95d88_32 ?_
  obtain ⟨x10003, ex10003, h⟩ := zbdE h
  refine zr_topl ex10003 ?_
  refine lv_lstore_n (lv' := [(0, .long x10003)]) hx hb dJ13_bitCount_95d88_33 rfl hl (by decide) rfl (fun ls hl => ?_)
  refine lv_lload_n hx hb dJ13_bitCount_95d88_34 rfl (lv_at hl 0 rfl) ?_
  refine lv_lload_n hx hb dJ13_bitCount_95d88_35 rfl (lv_at hl 0 rfl) ?_
  refine lv_bipush (v := 8) hx hb dJ13_bitCount_95d88_36 (by decide) ?_
  refine lv_lushr hx hb dJ13_bitCount_95d88_38 rfl ?_
  refine lv_ladd hx hb dJ13_bitCount_95d88_39 ?_
  obtain ⟨x10004, ex10004, h⟩ := zbdE h
  refine zr_topl ex10004 ?_
  refine lv_lstore_n (lv' := [(0, .long x10004)]) hx hb dJ13_bitCount_95d88_40 rfl hl (by decide) rfl (fun ls hl => ?_)
  refine lv_lload_n hx hb dJ13_bitCount_95d88_41 rfl (lv_at hl 0 rfl) ?_
  refine lv_lload_n hx hb dJ13_bitCount_95d88_42 rfl (lv_at hl 0 rfl) ?_
  refine lv_bipush (v := 16) hx hb dJ13_bitCount_95d88_43 (by decide) ?_
  refine lv_lushr hx hb dJ13_bitCount_95d88_45 rfl ?_
  refine lv_ladd hx hb dJ13_bitCount_95d88_46 ?_
  obtain ⟨x10005, ex10005, h⟩ := zbdE h
  refine zr_topl ex10005 ?_
  refine lv_lstore_n (lv' := [(0, .long x10005)]) hx hb dJ13_bitCount_95d88_47 rfl hl (by decide) rfl (fun ls hl => ?_)
  refine lv_lload_n hx hb dJ13_bitCount_95d88_48 rfl (lv_at hl 0 rfl) ?_
  refine lv_lload_n hx hb dJ13_bitCount_95d88_49 rfl (lv_at hl 0 rfl) ?_
  refine lv_bipush (v := 32) hx hb dJ13_bitCount_95d88_50 (by decide) ?_
  refine lv_lushr hx hb dJ13_bitCount_95d88_52 rfl ?_
  refine lv_ladd hx hb dJ13_bitCount_95d88_53 ?_
  obtain ⟨x10006, ex10006, h⟩ := zbdE h
  refine zr_topl ex10006 ?_
  refine lv_lstore_n (lv' := [(0, .long x10006)]) hx hb dJ13_bitCount_95d88_54 rfl hl (by decide) rfl (fun ls hl => ?_)
  refine lv_lload_n hx hb dJ13_bitCount_95d88_55 rfl (lv_at hl 0 rfl) ?_
  refine lv_l2i hx hb dJ13_bitCount_95d88_56 rfl ?_
  refine lv_bipush (v := 127) hx hb dJ13_bitCount_95d88_57 (by decide) ?_
  refine lv_iand hx hb dJ13_bitCount_95d88_59 ?_
  exact zr_iret S hE hr hlk h dJ13_bitCount_95d88_60
set_option maxHeartbeats 4000000 in
set_option maxRecDepth 100000 in
theorem kX7_told (l : Launch) (D : va_G) (tc : Nat → ClassId) (lo : Nat) (ad : Nat → Nat) (fr : va_W) (zq : zz_Q) (a1 : Int32) (a2 : Int32) (w : zz_W) (r : Int32) (w_ : zz_W) (h : fX7_told a1 a2 w = some (r, w_)) : zMi l yX7_told cX7_told 3 (some .int) { frames := 4, cells := 0, slots := 0, locals := 97 } D tc lo ad zshC znnC fr zq [.ref (ad 0), .int a1, .int a2] w r w_ := by
  refine zr_entry (by decide) (Nat.le_of_ble_eq_true rfl) fun p e s m args below meth c ls S hX hr hlk hE hl => ?_
  have S : CallFix p m c cX7_told 3 s args (Cond.code yX7_told cX7_told 3 (some .int) :: zw_tb) RX7 := S
  have hx := S.1
  have hb := S.2.1
  have hK := hX.2.1
  have hl : lv_has ls 3 [(0, .ref (ad 0)), (1, .int a1), (2, .int a2)] := hl
  unfold fX7_told at h
  refine lv_aload_n hx hb dX7_told_0 rfl (lv_at hl 0 rfl) ?_
  refine zr_getA S hK hE zcl_X7 (zc_0 w) 0 (Nat.le_of_ble_eq_true rfl) (q := 1) rfl qf_X7_10 dX7_told_1 ?_
  refine lv_iload_n hx hb dX7_told_4 rfl (lv_at hl 1 rfl) ?_
  obtain ⟨x10001, w10002, ew10002, h⟩ := zbd2E h
  refine zr_i (zr_runV (As := [.int a1]) S hX hE (kX6_isRun l D tc lo ad fr zq 1 a1 w x10001 w10002 ew10002) zyX6_isRun qm_X7_78 zcl_X6 rfl (zcW0 zW1 w) ⟨rfl, rfl⟩ ⟨Nat.le_of_ble_eq_true rfl, Nat.le_of_ble_eq_true rfl⟩ rfl hl.1 rfl (Nat.le_of_ble_eq_true rfl) dX7_told_5 ⟨Nat.zero_le _, Nat.zero_le _⟩) hE (fun H locs hE => ?_)
  refine lv_if_ne (tgt := 14) hx hb dX7_told_8 (by decide) (fun c10003 => ?_) (fun c10003 => ?_)
  · have h := zif' c10003 h
    refine lv_iload_n hx hb dX7_told_14 rfl (lv_at hl 2 rfl) ?_
    by_cases c10005 : a2 = 0
    · refine lv_tableIn (off := 45) (tgt := 60) hx hb dX7_told_15 (by rw [c10005]; decide) (by rw [c10005]; decide) (by rw [c10005]; decide) (by decide) ?_
      have h := zif c10005 h
      refine lv_aload_n hx hb dX7_told_60 rfl (lv_at hl 0 rfl) ?_
      refine zr_getA S hK hE zcl_X7 (zc_0 w10002) 0 (Nat.le_of_ble_eq_true rfl) (q := 1) rfl qf_X7_10 dX7_told_61 ?_
      refine zr_getA S hK hE zcl_X6 (zcW0 zW1 w10002) 0 (Nat.le_of_ble_eq_true rfl) (q := 1 + 1) rfl qf_X7_81 dX7_told_64 ?_
      refine lv_iload_n hx hb dX7_told_67 rfl (lv_at hl 1 rfl) ?_
      obtain ⟨x10004, ex10004, h⟩ := zbdE h
      refine zr_iald S hK hE (zcW1 zW1 w10002) dX7_told_68 ex10004 ?_
      exact zr_iret S hE hr hlk h dX7_told_69
    have h := zif' c10005 h
    by_cases c10007 : a2 = 1
    · refine lv_tableIn (off := 55) (tgt := 70) hx hb dX7_told_15 (by rw [c10007]; decide) (by rw [c10007]; decide) (by rw [c10007]; decide) (by decide) ?_
      have h := zif c10007 h
      refine lv_aload_n hx hb dX7_told_70 rfl (lv_at hl 0 rfl) ?_
      refine zr_getA S hK hE zcl_X7 (zc_0 w10002) 0 (Nat.le_of_ble_eq_true rfl) (q := 1) rfl qf_X7_10 dX7_told_71 ?_
      refine zr_getA S hK hE zcl_X6 (zcW0 zW1 w10002) 1 (Nat.le_of_ble_eq_true rfl) (q := 1 + 2) rfl qf_X7_84 dX7_told_74 ?_
      refine lv_iload_n hx hb dX7_told_77 rfl (lv_at hl 1 rfl) ?_
      obtain ⟨x10006, ex10006, h⟩ := zbdE h
      refine zr_iald S hK hE (zcW2 zW1 w10002) dX7_told_78 ex10006 ?_
      exact zr_iret S hE hr hlk h dX7_told_79
    have h := zif' c10007 h
    by_cases c10009 : a2 = 2
    · refine lv_tableIn (off := 65) (tgt := 80) hx hb dX7_told_15 (by rw [c10009]; decide) (by rw [c10009]; decide) (by rw [c10009]; decide) (by decide) ?_
      have h := zif c10009 h
      refine lv_aload_n hx hb dX7_told_80 rfl (lv_at hl 0 rfl) ?_
      refine zr_getA S hK hE zcl_X7 (zc_0 w10002) 0 (Nat.le_of_ble_eq_true rfl) (q := 1) rfl qf_X7_10 dX7_told_81 ?_
      refine zr_getA S hK hE zcl_X6 (zcW0 zW1 w10002) 2 (Nat.le_of_ble_eq_true rfl) (q := 1 + 3) rfl qf_X7_87 dX7_told_84 ?_
      refine lv_iload_n hx hb dX7_told_87 rfl (lv_at hl 1 rfl) ?_
      obtain ⟨x10008, ex10008, h⟩ := zbdE h
      refine zr_iald S hK hE (zcW3 zW1 w10002) dX7_told_88 ex10008 ?_
      exact zr_iret S hE hr hlk h dX7_told_89
    have h := zif' c10009 h
    by_cases c10011 : a2 = 3
    · refine lv_tableIn (off := 75) (tgt := 90) hx hb dX7_told_15 (by rw [c10011]; decide) (by rw [c10011]; decide) (by rw [c10011]; decide) (by decide) ?_
      have h := zif c10011 h
      refine lv_aload_n hx hb dX7_told_90 rfl (lv_at hl 0 rfl) ?_
      refine zr_getA S hK hE zcl_X7 (zc_0 w10002) 0 (Nat.le_of_ble_eq_true rfl) (q := 1) rfl qf_X7_10 dX7_told_91 ?_
      refine zr_getA S hK hE zcl_X6 (zcW0 zW1 w10002) 3 (Nat.le_of_ble_eq_true rfl) (q := 1 + 4) rfl qf_X7_90 dX7_told_94 ?_
      refine lv_iload_n hx hb dX7_told_97 rfl (lv_at hl 1 rfl) ?_
      obtain ⟨x10010, ex10010, h⟩ := zbdE h
      refine zr_iald S hK hE (zcW4 zW1 w10002) dX7_told_98 ex10010 ?_
      exact zr_iret S hE hr hlk h dX7_told_99
    have h := zif' c10011 h
    by_cases c10013 : a2 = 4
    · refine lv_tableIn (off := 85) (tgt := 100) hx hb dX7_told_15 (by rw [c10013]; decide) (by rw [c10013]; decide) (by rw [c10013]; decide) (by decide) ?_
      have h := zif c10013 h
      refine lv_aload_n hx hb dX7_told_100 rfl (lv_at hl 0 rfl) ?_
      refine zr_getA S hK hE zcl_X7 (zc_0 w10002) 0 (Nat.le_of_ble_eq_true rfl) (q := 1) rfl qf_X7_10 dX7_told_101 ?_
      refine zr_getA S hK hE zcl_X6 (zcW0 zW1 w10002) 4 (Nat.le_of_ble_eq_true rfl) (q := 1 + 5) rfl qf_X7_93 dX7_told_104 ?_
      refine lv_iload_n hx hb dX7_told_107 rfl (lv_at hl 1 rfl) ?_
      obtain ⟨x10012, ex10012, h⟩ := zbdE h
      refine zr_iald S hK hE (zcW5 zW1 w10002) dX7_told_108 ex10012 ?_
      exact zr_iret S hE hr hlk h dX7_told_109
    have h := zif' c10013 h
    by_cases c10016 : a2 = 5
    · refine lv_tableIn (off := 95) (tgt := 110) hx hb dX7_told_15 (by rw [c10016]; decide) (by rw [c10016]; decide) (by rw [c10016]; decide) (by decide) ?_
      have h := zif c10016 h
      refine lv_aload_n hx hb dX7_told_110 rfl (lv_at hl 0 rfl) ?_
      refine zr_getA S hK hE zcl_X7 (zc_0 w10002) 0 (Nat.le_of_ble_eq_true rfl) (q := 1) rfl qf_X7_10 dX7_told_111 ?_
      refine lv_iload_n hx hb dX7_told_114 rfl (lv_at hl 1 rfl) ?_
      obtain ⟨x10014, w10015, ew10015, h⟩ := zbd2E h
      refine zr_i (zr_runV (As := [.int a1]) S hX hE (kX6_hurtOf l D tc lo ad fr zq 1 a1 w10002 x10014 w10015 ew10015) zyX6_hurtOf qm_X7_96 zcl_X6 rfl (zcW0 zW1 w10002) ⟨rfl, rfl⟩ ⟨Nat.le_of_ble_eq_true rfl, Nat.le_of_ble_eq_true rfl⟩ rfl hl.1 rfl (Nat.le_of_ble_eq_true rfl) dX7_told_115 ⟨Nat.zero_le _, Nat.zero_le _⟩) hE (fun H locs hE => ?_)
      exact zr_iret S hE hr hlk h dX7_told_118
    have h := zif' c10016 h
    by_cases c10020 : a2 = 6
    · refine lv_tableIn (off := 104) (tgt := 119) hx hb dX7_told_15 (by rw [c10020]; decide) (by rw [c10020]; decide) (by rw [c10020]; decide) (by decide) ?_
      have h := zif c10020 h
      refine lv_aload_n hx hb dX7_told_119 rfl (lv_at hl 0 rfl) ?_
      refine zr_getA S hK hE zcl_X7 (zc_0 w10002) 0 (Nat.le_of_ble_eq_true rfl) (q := 1) rfl qf_X7_10 dX7_told_120 ?_
      refine zr_getA S hK hE zcl_X6 (zcW0 zW1 w10002) 5 (Nat.le_of_ble_eq_true rfl) (q := 1 + 6) rfl qf_X7_100 dX7_told_123 ?_
      refine lv_iload_n hx hb dX7_told_126 rfl (lv_at hl 1 rfl) ?_
      obtain ⟨x10017, ex10017, h⟩ := zbdE h
      refine zr_lald S hK hE (zcW6 zW1 w10002) dX7_told_127 ex10017 ?_
      obtain ⟨x10018, w10019, ew10019, h⟩ := zbd2E h
      refine zr_i (zr_runS (As := [.long x10017]) S hX hE (kJ13_bitCount_95d88 l D tc lo ad fr zq x10017 w10002 x10018 w10019 ew10019) zyJ13_bitCount_95d88 qm_X7_104 ⟨rfl, rfl⟩ ⟨Nat.le_of_ble_eq_true rfl, Nat.le_of_ble_eq_true rfl⟩ rfl hl.1 rfl (Nat.le_of_ble_eq_true rfl) dX7_told_128 ⟨Nat.zero_le _, Nat.zero_le _⟩) hE (fun H locs hE => ?_)
      exact zr_iret S hE hr hlk h dX7_told_131
    have h := zif' c10020 h
    by_cases c10025 : a2 = 7
    · refine lv_tableIn (off := 117) (tgt := 132) hx hb dX7_told_15 (by rw [c10025]; decide) (by rw [c10025]; decide) (by rw [c10025]; decide) (by decide) ?_
      have h := zif c10025 h
      refine lv_aload_n hx hb dX7_told_132 rfl (lv_at hl 0 rfl) ?_
      refine zr_getA S hK hE zcl_X7 (zc_0 w10002) 0 (Nat.le_of_ble_eq_true rfl) (q := 1) rfl qf_X7_10 dX7_told_133 ?_
      refine zr_getA S hK hE zcl_X6 (zcW0 zW1 w10002) 0 (Nat.le_of_ble_eq_true rfl) (q := 1 + 1) rfl qf_X7_81 dX7_told_136 ?_
      refine lv_iload_n hx hb dX7_told_139 rfl (lv_at hl 1 rfl) ?_
      obtain ⟨x10021, ex10021, h⟩ := zbdE h
      refine zr_iald S hK hE (zcW1 zW1 w10002) dX7_told_140 ex10021 ?_
      refine lv_aload_n hx hb dX7_told_141 rfl (lv_at hl 0 rfl) ?_
      refine zr_getA S hK hE zcl_X7 (zc_0 w10002) 0 (Nat.le_of_ble_eq_true rfl) (q := 1) rfl qf_X7_10 dX7_told_142 ?_
      refine zr_getA S hK hE zcl_X6 (zcW0 zW1 w10002) 3 (Nat.le_of_ble_eq_true rfl) (q := 1 + 4) rfl qf_X7_90 dX7_told_145 ?_
      refine lv_iload_n hx hb dX7_told_148 rfl (lv_at hl 1 rfl) ?_
      obtain ⟨x10022, ex10022, h⟩ := zbdE h
      refine zr_iald S hK hE (zcW4 zW1 w10002) dX7_told_149 ex10022 ?_
      obtain ⟨x10023, w10024, ew10024, h⟩ := zbd2E h
      refine zr_i (zr_runS (As := [.int x10021, .int x10022]) S hX hE (kX0_worthOf l D tc lo ad fr zq x10021 x10022 w10002 x10023 w10024 ew10024) zyX0_worthOf qm_X7_110 ⟨rfl, rfl⟩ ⟨Nat.le_of_ble_eq_true rfl, Nat.le_of_ble_eq_true rfl⟩ rfl hl.1 rfl (Nat.le_of_ble_eq_true rfl) dX7_told_150 ⟨Nat.zero_le _, Nat.zero_le _⟩) hE (fun H locs hE => ?_)
      exact zr_iret S hE hr hlk h dX7_told_153
    have h := zif' c10025 h
    refine lv_tableOut (tgt := 154) hx hb dX7_told_15 (by have tc10005 := lv_neT c10005 (a := 0) (by decide); have tc10007 := lv_neT c10007 (a := 1) (by decide); have tc10009 := lv_neT c10009 (a := 2) (by decide); have tc10011 := lv_neT c10011 (a := 3) (by decide); have tc10013 := lv_neT c10013 (a := 4) (by decide); have tc10016 := lv_neT c10016 (a := 5) (by decide); have tc10020 := lv_neT c10020 (a := 6) (by decide); have tc10025 := lv_neT c10025 (a := 7) (by decide); omega) (by decide) ?_
    refine zr_ldc S qc_X7_68 dX7_told_154 ?_
    exact zr_iret S hE hr hlk h dX7_told_156
  · have h := zif c10003 h
    refine zr_ldc S qc_X7_68 dX7_told_11 ?_
    exact zr_iret S hE hr hlk h dX7_told_13
set_option maxHeartbeats 4000000 in
set_option maxRecDepth 100000 in
theorem kX7_trim (l : Launch) (D : va_G) (tc : Nat → ClassId) (lo : Nat) (ad : Nat → Nat) (fr : va_W) (zq : zz_Q) (a1 : Int32) (w : zz_W) (r : Int32) (w_ : zz_W) (h : fX7_trim a1 w = some (r, w_)) : zMi l yX7_trim cX7_trim 2 (some .int) { frames := 1, cells := 0, slots := 0, locals := 22 } D tc lo ad zshC znnC fr zq [.ref (ad 0), .int a1] w r w_ := by
  refine zr_entry (by decide) (Nat.le_of_ble_eq_true rfl) fun p e s m args below meth c ls S hX hr hlk hE hl => ?_
  have S : CallFix p m c cX7_trim 2 s args (Cond.code yX7_trim cX7_trim 2 (some .int) :: zw_tb) RX7 := S
  have hx := S.1
  have hb := S.2.1
  have hK := hX.2.1
  have hl : lv_has ls 2 [(0, .ref (ad 0)), (1, .int a1)] := hl
  unfold fX7_trim at h
  refine lv_iload_n hx hb dX7_trim_0 rfl (lv_at hl 1 rfl) ?_
  refine lv_iconst (v := 0) hx hb dX7_trim_1 (by decide) ?_
  refine lv_aload_n hx hb dX7_trim_2 rfl (lv_at hl 0 rfl) ?_
  refine zr_getA S hK hE zcl_X7 (zc_0 w) 4 (Nat.le_of_ble_eq_true rfl) (q := 36) rfl qf_X7_32 dX7_trim_3 ?_
  obtain ⟨x10001, ex10001, h⟩ := zbdE h
  refine zr_getI S hK hE zcl_X4 (zc_36 w) 0 (Nat.le_of_ble_eq_true rfl) rfl qf_X7_254 dX7_trim_6 ex10001 ?_
  obtain ⟨x10002, w10003, ew10003, h⟩ := zbd2E h
  refine zr_i (zr_runS (As := [.int a1, .int 0, .int x10001]) S hX hE (kX7_within l D tc lo ad fr zq a1 0 x10001 w x10002 w10003 ew10003) zyX7_within qm_X7_61 ⟨rfl, rfl⟩ ⟨Nat.le_of_ble_eq_true rfl, Nat.le_of_ble_eq_true rfl⟩ rfl hl.1 rfl (Nat.le_of_ble_eq_true rfl) dX7_trim_9 ⟨Nat.zero_le _, Nat.zero_le _⟩) hE (fun H locs hE => ?_)
  refine lv_if_ne (tgt := 18) hx hb dX7_trim_12 (by decide) (fun c10004 => ?_) (fun c10004 => ?_)
  · have h := zif' c10004 h
    refine lv_aload_n hx hb dX7_trim_18 rfl (lv_at hl 0 rfl) ?_
    refine zr_getA S hK hE zcl_X7 (zc_0 w10003) 4 (Nat.le_of_ble_eq_true rfl) (q := 36) rfl qf_X7_32 dX7_trim_19 ?_
    refine lv_iload_n hx hb dX7_trim_22 rfl (lv_at hl 1 rfl) ?_
    obtain ⟨w10005, ew10005, h⟩ := zbdE h
    refine zr_putI S hK hE zcl_X4 (zc_36 w10003) 0 (Nat.le_of_ble_eq_true rfl) rfl rfl rfl qf_X7_254 dX7_trim_23 ew10005 (fun H locs hE => ?_)
    refine lv_iload_n hx hb dX7_trim_26 rfl (lv_at hl 1 rfl) ?_
    exact zr_iret S hE hr hlk h dX7_trim_27
  · have h := zif c10004 h
    refine zr_ldc S qc_X7_68 dX7_trim_15 ?_
    exact zr_iret S hE hr hlk h dX7_trim_17
set_option maxHeartbeats 4000000 in
set_option maxRecDepth 100000 in
theorem kX7_turns (l : Launch) (D : va_G) (tc : Nat → ClassId) (lo : Nat) (ad : Nat → Nat) (fr : va_W) (zq : zz_Q) (a1 : Int32) (a2 : Int32) (w : zz_W) (r : Int32) (w_ : zz_W) (h : fX7_turns a1 a2 w = some (r, w_)) : zMi l yX7_turns cX7_turns 4 (some .int) { frames := 4, cells := 0, slots := 0, locals := 91 } D tc lo ad zshC znnC fr zq [.ref (ad 0), .int a1, .int a2] w r w_ := by
  refine zr_entry (by decide) (Nat.le_of_ble_eq_true rfl) fun p e s m args below meth c ls S hX hr hlk hE hl => ?_
  have S : CallFix p m c cX7_turns 4 s args (Cond.code yX7_turns cX7_turns 4 (some .int) :: zw_tb) RX7 := S
  have hx := S.1
  have hb := S.2.1
  have hK := hX.2.1
  have hl : lv_has ls 4 [(0, .ref (ad 0)), (1, .int a1), (2, .int a2)] := hl
  unfold fX7_turns at h
  refine lv_aload_n hx hb dX7_turns_0 rfl (lv_at hl 0 rfl) ?_
  refine zr_getA S hK hE zcl_X7 (zc_0 w) 0 (Nat.le_of_ble_eq_true rfl) (q := 1) rfl qf_X7_10 dX7_turns_1 ?_
  refine lv_iload_n hx hb dX7_turns_4 rfl (lv_at hl 1 rfl) ?_
  obtain ⟨x10001, w10002, ew10002, h⟩ := zbd2E h
  refine zr_i (zr_runV (As := [.int a1]) S hX hE (kX6_isRun l D tc lo ad fr zq 1 a1 w x10001 w10002 ew10002) zyX6_isRun qm_X7_78 zcl_X6 rfl (zcW0 zW1 w) ⟨rfl, rfl⟩ ⟨Nat.le_of_ble_eq_true rfl, Nat.le_of_ble_eq_true rfl⟩ rfl hl.1 rfl (Nat.le_of_ble_eq_true rfl) dX7_turns_5 ⟨Nat.zero_le _, Nat.zero_le _⟩) hE (fun H locs hE => ?_)
  refine lv_if_eq (tgt := 18) hx hb dX7_turns_8 (by decide) (fun c10003 => ?_) (fun c10003 => ?_)
  · have h := zif c10003 h
    refine zr_ldc S qc_X7_68 dX7_turns_18 ?_
    exact zr_iret S hE hr hlk h dX7_turns_20
  · have h := zif' c10003 h
    refine lv_iload_n hx hb dX7_turns_11 rfl (lv_at hl 2 rfl) ?_
    obtain ⟨x10004, w10005, ew10005, h⟩ := zbd2E h
    refine zr_i (zr_runS (As := [.int a2]) S hX hE (kX7_isKind l D tc lo ad fr zq a2 w10002 x10004 w10005 ew10005) zyX7_isKind qm_X7_54 ⟨rfl, rfl⟩ ⟨Nat.le_of_ble_eq_true rfl, Nat.le_of_ble_eq_true rfl⟩ rfl hl.1 rfl (Nat.le_of_ble_eq_true rfl) dX7_turns_12 ⟨Nat.zero_le _, Nat.zero_le _⟩) hE (fun H locs hE => ?_)
    refine lv_if_ne (tgt := 21) hx hb dX7_turns_15 (by decide) (fun c10006 => ?_) (fun c10006 => ?_)
    · have h := zif' c10006 h
      refine lv_aload_n hx hb dX7_turns_21 rfl (lv_at hl 0 rfl) ?_
      refine zr_getA S hK hE zcl_X7 (zc_0 w10005) 0 (Nat.le_of_ble_eq_true rfl) (q := 1) rfl qf_X7_10 dX7_turns_22 ?_
      refine zr_getA S hK hE zcl_X6 (zcW0 zW1 w10005) 0 (Nat.le_of_ble_eq_true rfl) (q := 1 + 1) rfl qf_X7_81 dX7_turns_25 ?_
      refine lv_iload_n hx hb dX7_turns_28 rfl (lv_at hl 1 rfl) ?_
      obtain ⟨x10007, ex10007, h⟩ := zbdE h
      refine zr_iald S hK hE (zcW1 zW1 w10005) dX7_turns_29 ex10007 ?_
      refine lv_istore_n (lv' := [(3, .int x10007), (0, .ref (ad 0)), (1, .int a1), (2, .int a2)]) hx hb dX7_turns_30 rfl hl (by decide) rfl (fun ls hl => ?_)
      refine lv_aload_n hx hb dX7_turns_31 rfl (lv_at hl 1 rfl) ?_
      refine zr_getA S hK hE zcl_X7 (zc_0 w10005) 0 (Nat.le_of_ble_eq_true rfl) (q := 1) rfl qf_X7_10 dX7_turns_32 ?_
      refine lv_iload_n hx hb dX7_turns_35 rfl (lv_at hl 2 rfl) ?_
      refine lv_iload_n hx hb dX7_turns_36 rfl (lv_at hl 3 rfl) ?_
      refine lv_aload_n hx hb dX7_turns_37 rfl (lv_at hl 1 rfl) ?_
      refine zr_getA S hK hE zcl_X7 (zc_0 w10005) 0 (Nat.le_of_ble_eq_true rfl) (q := 1) rfl qf_X7_10 dX7_turns_38 ?_
      refine zr_getA S hK hE zcl_X6 (zcW0 zW1 w10005) 1 (Nat.le_of_ble_eq_true rfl) (q := 1 + 2) rfl qf_X7_84 dX7_turns_41 ?_
      refine lv_iload_n hx hb dX7_turns_44 rfl (lv_at hl 2 rfl) ?_
      obtain ⟨x10008, ex10008, h⟩ := zbdE h
      refine zr_iald S hK hE (zcW2 zW1 w10005) dX7_turns_45 ex10008 ?_
      obtain ⟨w10009, ew10009, h⟩ := zbdE h
      refine zr_v (zr_runV (As := [.int a1, .int a2, .int x10008]) S hX hE (kX6_shape l D tc lo ad fr zq 1 a1 a2 x10008 w10005 w10009 ew10009) zyX6_shape qm_X7_121 zcl_X6 rfl (zcW0 zW1 w10005) ⟨rfl, rfl⟩ ⟨Nat.le_of_ble_eq_true rfl, Nat.le_of_ble_eq_true rfl⟩ rfl hl.1 rfl (Nat.le_of_ble_eq_true rfl) dX7_turns_46 ⟨Nat.zero_le _, Nat.zero_le _⟩) hE (fun H locs hE => ?_)
      refine lv_iload_n hx hb dX7_turns_49 rfl (lv_at hl 0 rfl) ?_
      exact zr_iret S hE hr hlk h dX7_turns_50
    · have h := zif c10006 h
      refine zr_ldc S qc_X7_68 dX7_turns_18 ?_
      exact zr_iret S hE hr hlk h dX7_turns_20
set_option maxHeartbeats 4000000 in
set_option maxRecDepth 100000 in
theorem kX7_when (l : Launch) (D : va_G) (tc : Nat → ClassId) (lo : Nat) (ad : Nat → Nat) (fr : va_W) (zq : zz_Q) (w : zz_W) (r : Int32) (w_ : zz_W) (h : fX7_when w = some (r, w_)) : zMi l yX7_when cX7_when 2 (some .int) { frames := 5, cells := 0, slots := 0, locals := 117 } D tc lo ad zshC znnC fr zq [.ref (ad 0)] w r w_ := by
  refine zr_entry (by decide) (Nat.le_of_ble_eq_true rfl) fun p e s m args below meth c ls S hX hr hlk hE hl => ?_
  have S : CallFix p m c cX7_when 2 s args (Cond.code yX7_when cX7_when 2 (some .int) :: zw_tb) RX7 := S
  have hx := S.1
  have hb := S.2.1
  have hK := hX.2.1
  have hl : lv_has ls 2 [(0, .ref (ad 0))] := hl
  unfold fX7_when at h
  have L13 : ∀ (n : Nat) (l1 : Int32) (w : zz_W) (ls : Array Slot) (H : Heap) (locs : List Loc), fX7_when_13 n l1 w = some (r, w_) → lv_has ls 2 [(0, .ref (ad 0)), (1, .int l1)] → zE D tc lo ad zshC znnC fr w s.heap H locs → W p l e { frames := 5, cells := 0, slots := 0, locals := 117 } s m args below meth c H locs 0 0 (zZi D tc lo ad zshC znnC fr below args s r w_) (F0 m 13 ls []) := by
    intro n13
    induction n13 with
    | zero => intro l1 w ls H locs h hl hE; rw [fX7_when_13] at h; cases h
    | succ n13 ih13 =>
      intro l1 w ls H locs h hl hE
      rw [fX7_when_13] at h
      refine lv_iload_n hx hb dX7_when_13 rfl (lv_at hl 1 rfl) ?_
      refine lv_bipush (v := 100) hx hb dX7_when_14 (by decide) ?_
      refine lv_icmp_gt (tgt := 44) hx hb dX7_when_16 (by decide) (fun c15 => ?_) (fun c15 => ?_)
      · have h := zif c15 h
        refine zr_ldc S qc_X7_184 dX7_when_44 ?_
        exact zr_iret S hE hr hlk h dX7_when_46
      · have h := zif' c15 h
        refine lv_aload_n hx hb dX7_when_19 rfl (lv_at hl 0 rfl) ?_
        refine zr_getA S hK hE zcl_X7 (zc_0 w) 2 (Nat.le_of_ble_eq_true rfl) (q := 21) rfl qf_X7_19 dX7_when_20 ?_
        obtain ⟨x16, w17, ew17, h⟩ := zbd2E h
        refine zr_i (zr_runV (As := []) S hX hE (kX6_isKnown l D tc lo ad fr zq 21 w x16 w17 ew17) zyX6_isKnown qm_X7_189 zcl_X6 rfl (zcW0 zW21 w) ⟨rfl, rfl⟩ ⟨Nat.le_of_ble_eq_true rfl, Nat.le_of_ble_eq_true rfl⟩ rfl hl.1 rfl (Nat.le_of_ble_eq_true rfl) dX7_when_23 ⟨Nat.zero_le _, Nat.zero_le _⟩) hE (fun H locs hE => ?_)
        refine lv_if_eq (tgt := 31) hx hb dX7_when_26 (by decide) (fun c18 => ?_) (fun c18 => ?_)
        · have h := zif c18 h
          refine lv_aload_n hx hb dX7_when_31 rfl (lv_at hl 0 rfl) ?_
          refine zr_getA S hK hE zcl_X7 (zc_0 w17) 2 (Nat.le_of_ble_eq_true rfl) (q := 21) rfl qf_X7_19 dX7_when_32 ?_
          obtain ⟨w19, ew19, h⟩ := zbdE h
          refine zr_v (zr_runV (As := []) S hX hE (kX6_takeStep l D tc lo ad fr zq 21 w17 w19 ew19) zyX6_takeStep qm_X7_244 zcl_X6 rfl (zcW0 zW21 w17) ⟨rfl, rfl⟩ ⟨Nat.le_of_ble_eq_true rfl, Nat.le_of_ble_eq_true rfl⟩ rfl hl.1 rfl (Nat.le_of_ble_eq_true rfl) dX7_when_35 ⟨Nat.zero_le _, Nat.zero_le _⟩) hE (fun H locs hE => ?_)
          obtain ⟨x20, ex20, h⟩ := zbdE h
          refine lv_iinc (v := x20) (lv' := [(1, .int x20), (0, .ref (ad 0))]) hx hb dX7_when_38 hl (k := 1) rfl (zinc (k := 1) (by decide) ex20) (by decide) rfl (fun ls hl => ?_)
          refine lv_goto (tgt := 13) hx hb dX7_when_41 (by decide) ?_
          exact ih13 x20 w19 ls _ _ h (lv_sub hl [1, 0] rfl) hE
        · have h := zif' c18 h
          refine lv_iload_n hx hb dX7_when_29 rfl (lv_at hl 1 rfl) ?_
          exact zr_iret S hE hr hlk h dX7_when_30
  refine lv_aload_n hx hb dX7_when_0 rfl (lv_at hl 0 rfl) ?_
  refine zr_getA S hK hE zcl_X7 (zc_0 w) 2 (Nat.le_of_ble_eq_true rfl) (q := 21) rfl qf_X7_19 dX7_when_1 ?_
  refine lv_aload_n hx hb dX7_when_4 rfl (lv_at hl 0 rfl) ?_
  refine zr_getA S hK hE zcl_X7 (zc_0 w) 0 (Nat.le_of_ble_eq_true rfl) (q := 1) rfl qf_X7_10 dX7_when_5 ?_
  obtain ⟨w10001, ew10001, h⟩ := zbdE h
  refine zr_v (zr_runV (As := [.ref (ad 1)]) S hX hE (kX6_takeFrom l D tc lo ad fr zq 21 1 w w10001 ew10001) zyX6_takeFrom qm_X7_241 zcl_X6 rfl (zcW0 zW21 w) ⟨rfl, rfl⟩ ⟨Nat.le_of_ble_eq_true rfl, Nat.le_of_ble_eq_true rfl⟩ rfl hl.1 rfl (Nat.le_of_ble_eq_true rfl) dX7_when_8 ⟨Nat.zero_le _, Nat.zero_le _⟩) hE (fun H locs hE => ?_)
  refine lv_iconst (v := 0) hx hb dX7_when_11 (by decide) ?_
  refine lv_istore_n (lv' := [(1, .int 0), (0, .ref (ad 0))]) hx hb dX7_when_12 rfl hl (by decide) rfl (fun ls hl => ?_)
  exact L13 zfuel 0 w10001 ls _ _ h (lv_sub hl [1, 0] rfl) hE
set_option maxHeartbeats 4000000 in
set_option maxRecDepth 100000 in
theorem kX7_where (l : Launch) (D : va_G) (tc : Nat → ClassId) (lo : Nat) (ad : Nat → Nat) (fr : va_W) (zq : zz_Q) (a1 : Int32) (a2 : Int32) (a3 : Int32) (w : zz_W) (r : Int32) (w_ : zz_W) (h : fX7_where a1 a2 a3 w = some (r, w_)) : zMi l yX7_where cX7_where 5 (some .int) { frames := 7, cells := 0, slots := 0, locals := 165 } D tc lo ad zshC znnC fr zq [.ref (ad 0), .int a1, .int a2, .int a3] w r w_ := by
  refine zr_entry (by decide) (Nat.le_of_ble_eq_true rfl) fun p e s m args below meth c ls S hX hr hlk hE hl => ?_
  have S : CallFix p m c cX7_where 5 s args (Cond.code yX7_where cX7_where 5 (some .int) :: zw_tb) RX7 := S
  have hx := S.1
  have hb := S.2.1
  have hK := hX.2.1
  have hl : lv_has ls 5 [(0, .ref (ad 0)), (1, .int a1), (2, .int a2), (3, .int a3)] := hl
  unfold fX7_where at h
  refine lv_iload_n hx hb dX7_where_0 rfl (lv_at hl 1 rfl) ?_
  obtain ⟨x10001, w10002, ew10002, h⟩ := zbd2E h
  refine zr_i (zr_runS (As := [.int a1]) S hX hE (kX7_isSheet l D tc lo ad fr zq a1 w x10001 w10002 ew10002) zyX7_isSheet qm_X7_203 ⟨rfl, rfl⟩ ⟨Nat.le_of_ble_eq_true rfl, Nat.le_of_ble_eq_true rfl⟩ rfl hl.1 rfl (Nat.le_of_ble_eq_true rfl) dX7_where_1 ⟨Nat.zero_le _, Nat.zero_le _⟩) hE (fun H locs hE => ?_)
  refine lv_if_eq (tgt := 23) hx hb dX7_where_4 (by decide) (fun c10003 => ?_) (fun c10003 => ?_)
  · have h := zif c10003 h
    refine zr_ldc S qc_X7_68 dX7_where_23 ?_
    exact zr_iret S hE hr hlk h dX7_where_25
  · have h := zif' c10003 h
    refine lv_iload_n hx hb dX7_where_7 rfl (lv_at hl 2 rfl) ?_
    obtain ⟨x10004, w10005, ew10005, h⟩ := zbd2E h
    refine zr_i (zr_runS (As := [.int a2]) S hX hE (kX7_isDepth l D tc lo ad fr zq a2 w10002 x10004 w10005 ew10005) zyX7_isDepth qm_X7_65 ⟨rfl, rfl⟩ ⟨Nat.le_of_ble_eq_true rfl, Nat.le_of_ble_eq_true rfl⟩ rfl hl.1 rfl (Nat.le_of_ble_eq_true rfl) dX7_where_8 ⟨Nat.zero_le _, Nat.zero_le _⟩) hE (fun H locs hE => ?_)
    refine lv_if_eq (tgt := 23) hx hb dX7_where_11 (by decide) (fun c10006 => ?_) (fun c10006 => ?_)
    · have h := zif c10006 h
      refine zr_ldc S qc_X7_68 dX7_where_23 ?_
      exact zr_iret S hE hr hlk h dX7_where_25
    · have h := zif' c10006 h
      refine lv_iload_n hx hb dX7_where_14 rfl (lv_at hl 3 rfl) ?_
      refine lv_iconst (v := 0) hx hb dX7_where_15 (by decide) ?_
      refine lv_iconst (v := 1) hx hb dX7_where_16 (by decide) ?_
      obtain ⟨x10007, w10008, ew10008, h⟩ := zbd2E h
      refine zr_i (zr_runS (As := [.int a3, .int 0, .int 1]) S hX hE (kX7_within l D tc lo ad fr zq a3 0 1 w10005 x10007 w10008 ew10008) zyX7_within qm_X7_61 ⟨rfl, rfl⟩ ⟨Nat.le_of_ble_eq_true rfl, Nat.le_of_ble_eq_true rfl⟩ rfl hl.1 rfl (Nat.le_of_ble_eq_true rfl) dX7_where_17 ⟨Nat.zero_le _, Nat.zero_le _⟩) hE (fun H locs hE => ?_)
      refine lv_if_ne (tgt := 26) hx hb dX7_where_20 (by decide) (fun c10009 => ?_) (fun c10009 => ?_)
      · have h := zif' c10009 h
        refine lv_aload_n hx hb dX7_where_26 rfl (lv_at hl 0 rfl) ?_
        refine lv_iload_n hx hb dX7_where_27 rfl (lv_at hl 1 rfl) ?_
        refine lv_iload_n hx hb dX7_where_28 rfl (lv_at hl 2 rfl) ?_
        obtain ⟨x10010, w10011, ew10011, h⟩ := zbd2E h
        refine zr_i (zr_runV (As := [.int a1, .int a2]) S hX hE (kX7_makePlan l D tc lo ad fr zq a1 a2 w10008 x10010 w10011 ew10011) zyX7_makePlan qm_X7_206 zcl_X7 rfl (zc_0 w10008) ⟨rfl, rfl⟩ ⟨Nat.le_of_ble_eq_true rfl, Nat.le_of_ble_eq_true rfl⟩ rfl hl.1 rfl (Nat.le_of_ble_eq_true rfl) dX7_where_29 ⟨Nat.zero_le _, Nat.zero_le _⟩) hE (fun H locs hE => ?_)
        refine lv_istore (lv' := [(4, .int x10010), (0, .ref (ad 0)), (1, .int a1), (2, .int a2), (3, .int a3)]) hx hb dX7_where_32 hl (by decide) rfl (fun ls hl => ?_)
        refine lv_iload hx hb dX7_where_34 (lv_at hl 0 rfl) ?_
        refine lv_if_eq (tgt := 42) hx hb dX7_where_36 (by decide) (fun c10012 => ?_) (fun c10012 => ?_)
        · have h := zif c10012 h
          refine lv_iload_n hx hb dX7_where_42 rfl (lv_at hl 4 rfl) ?_
          refine lv_if_ne (tgt := 56) hx hb dX7_where_43 (by decide) (fun c10013 => ?_) (fun c10013 => ?_)
          · have h := zif' c10013 h
            refine lv_aload_n hx hb dX7_where_56 rfl (lv_at hl 1 rfl) ?_
            refine zr_getA S hK hE zcl_X7 (zc_0 w10011) 0 (Nat.le_of_ble_eq_true rfl) (q := 1) rfl qf_X7_10 dX7_where_57 ?_
            refine lv_aload_n hx hb dX7_where_60 rfl (lv_at hl 1 rfl) ?_
            refine zr_getA S hK hE zcl_X7 (zc_0 w10011) 3 (Nat.le_of_ble_eq_true rfl) (q := 31) rfl qf_X7_25 dX7_where_61 ?_
            obtain ⟨x10014, w10015, ew10015, h⟩ := zbd2E h
            refine zr_l (zr_runV (As := []) S hX hE (kX1_leastLoss l D tc lo ad fr zq w10011 x10014 w10015 ew10015) zyX1_leastLoss qm_X7_212 zcl_X1 rfl (zc_31 w10011) ⟨rfl, rfl⟩ ⟨Nat.le_of_ble_eq_true rfl, Nat.le_of_ble_eq_true rfl⟩ rfl hl.1 rfl (Nat.le_of_ble_eq_true rfl) dX7_where_64 ⟨Nat.zero_le _, Nat.zero_le _⟩) hE (fun H locs hE => ?_)
            obtain ⟨x10016, w10017, ew10017, h⟩ := zbd2E h
            refine zr_i (zr_runV (As := [.long x10014]) S hX hE (kX6_ofThousand l D tc lo ad fr zq 1 x10014 w10015 x10016 w10017 ew10017) zyX6_ofThousand qm_X7_196 zcl_X6 rfl (zcW0 zW1 w10015) ⟨rfl, rfl⟩ ⟨Nat.le_of_ble_eq_true rfl, Nat.le_of_ble_eq_true rfl⟩ rfl hl.1 rfl (Nat.le_of_ble_eq_true rfl) dX7_where_67 ⟨Nat.zero_le _, Nat.zero_le _⟩) hE (fun H locs hE => ?_)
            exact zr_iret S hE hr hlk h dX7_where_70
          · have h := zif c10013 h
            refine lv_aload_n hx hb dX7_where_46 rfl (lv_at hl 1 rfl) ?_
            refine zr_getA S hK hE zcl_X7 (zc_0 w10011) 3 (Nat.le_of_ble_eq_true rfl) (q := 31) rfl qf_X7_25 dX7_where_47 ?_
            obtain ⟨x10018, w10019, ew10019, h⟩ := zbd2E h
            refine zr_i (zr_runV (As := []) S hX hE (kX1_bestCell l D tc lo ad fr zq w10011 x10018 w10019 ew10019) zyX1_bestCell qm_X7_209 zcl_X1 rfl (zc_31 w10011) ⟨rfl, rfl⟩ ⟨Nat.le_of_ble_eq_true rfl, Nat.le_of_ble_eq_true rfl⟩ rfl hl.1 rfl (Nat.le_of_ble_eq_true rfl) dX7_where_50 ⟨Nat.zero_le _, Nat.zero_le _⟩) hE (fun H locs hE => ?_)
            refine lv_goto (tgt := 70) hx hb dX7_where_53 (by decide) ?_
            exact zr_iret S hE hr hlk h dX7_where_70
        · have h := zif' c10012 h
          refine lv_iload hx hb dX7_where_39 (lv_at hl 0 rfl) ?_
          exact zr_iret S hE hr hlk h dX7_where_41
      · have h := zif c10009 h
        refine zr_ldc S qc_X7_68 dX7_where_23 ?_
        exact zr_iret S hE hr hlk h dX7_where_25
set_option maxHeartbeats 4000000 in
set_option maxRecDepth 100000 in
theorem kX7_why (l : Launch) (D : va_G) (tc : Nat → ClassId) (lo : Nat) (ad : Nat → Nat) (fr : va_W) (zq : zz_Q) (a1 : Int32) (w : zz_W) (r : Int32) (w_ : zz_W) (h : fX7_why a1 w = some (r, w_)) : zMi l yX7_why cX7_why 2 (some .int) { frames := 1, cells := 0, slots := 0, locals := 22 } D tc lo ad zshC znnC fr zq [.ref (ad 0), .int a1] w r w_ := by
  refine zr_entry (by decide) (Nat.le_of_ble_eq_true rfl) fun p e s m args below meth c ls S hX hr hlk hE hl => ?_
  have S : CallFix p m c cX7_why 2 s args (Cond.code yX7_why cX7_why 2 (some .int) :: zw_tb) RX7 := S
  have hx := S.1
  have hb := S.2.1
  have hK := hX.2.1
  have hl : lv_has ls 2 [(0, .ref (ad 0)), (1, .int a1)] := hl
  unfold fX7_why at h
  refine lv_iload_n hx hb dX7_why_0 rfl (lv_at hl 1 rfl) ?_
  refine lv_iconst (v := 0) hx hb dX7_why_1 (by decide) ?_
  refine lv_iconst (v := 2) hx hb dX7_why_2 (by decide) ?_
  obtain ⟨x10001, w10002, ew10002, h⟩ := zbd2E h
  refine zr_i (zr_runS (As := [.int a1, .int 0, .int 2]) S hX hE (kX7_within l D tc lo ad fr zq a1 0 2 w x10001 w10002 ew10002) zyX7_within qm_X7_61 ⟨rfl, rfl⟩ ⟨Nat.le_of_ble_eq_true rfl, Nat.le_of_ble_eq_true rfl⟩ rfl hl.1 rfl (Nat.le_of_ble_eq_true rfl) dX7_why_3 ⟨Nat.zero_le _, Nat.zero_le _⟩) hE (fun H locs hE => ?_)
  refine lv_if_ne (tgt := 12) hx hb dX7_why_6 (by decide) (fun c10003 => ?_) (fun c10003 => ?_)
  · have h := zif' c10003 h
    refine lv_aload_n hx hb dX7_why_12 rfl (lv_at hl 0 rfl) ?_
    refine zr_getA S hK hE zcl_X7 (zc_0 w10002) 0 (Nat.le_of_ble_eq_true rfl) (q := 1) rfl qf_X7_10 dX7_why_13 ?_
    refine zr_getA S hK hE zcl_X6 (zcW0 zW1 w10002) 8 (Nat.le_of_ble_eq_true rfl) (q := 1 + 9) rfl qf_X7_286 dX7_why_16 ?_
    refine lv_iload_n hx hb dX7_why_19 rfl (lv_at hl 1 rfl) ?_
    obtain ⟨x10004, ex10004, h⟩ := zbdE h
    refine zr_iald S hK hE (zcW9 zW1 w10002) dX7_why_20 ex10004 ?_
    refine lv_if_ge (tgt := 29) hx hb dX7_why_21 (by decide) (fun c10005 => ?_) (fun c10005 => ?_)
    · have h := zif c10005 h
      refine lv_aload_n hx hb dX7_why_29 rfl (lv_at hl 0 rfl) ?_
      refine zr_getA S hK hE zcl_X7 (zc_0 w10002) 0 (Nat.le_of_ble_eq_true rfl) (q := 1) rfl qf_X7_10 dX7_why_30 ?_
      refine zr_getA S hK hE zcl_X6 (zcW0 zW1 w10002) 8 (Nat.le_of_ble_eq_true rfl) (q := 1 + 9) rfl qf_X7_286 dX7_why_33 ?_
      refine lv_iload_n hx hb dX7_why_36 rfl (lv_at hl 1 rfl) ?_
      obtain ⟨x10006, ex10006, h⟩ := zbdE h
      refine zr_iald S hK hE (zcW9 zW1 w10002) dX7_why_37 ex10006 ?_
      exact zr_iret S hE hr hlk h dX7_why_38
    · have h := zif' c10005 h
      refine zr_ldc S qc_X7_184 dX7_why_24 ?_
      refine lv_goto (tgt := 38) hx hb dX7_why_26 (by decide) ?_
      exact zr_iret S hE hr hlk h dX7_why_38
  · have h := zif c10003 h
    refine zr_ldc S qc_X7_68 dX7_why_9 ?_
    exact zr_iret S hE hr hlk h dX7_why_11
set_option maxHeartbeats 4000000 in
set_option maxRecDepth 100000 in
theorem kX7_worthiest (l : Launch) (D : va_G) (tc : Nat → ClassId) (lo : Nat) (ad : Nat → Nat) (fr : va_W) (zq : zz_Q) (a1 : Int32) (a2 : Int32) (a3 : Int32) (w : zz_W) (r : Int32) (w_ : zz_W) (h : fX7_worthiest a1 a2 a3 w = some (r, w_)) : zMi l yX7_worthiest cX7_worthiest 5 (some .int) { frames := 7, cells := 0, slots := 0, locals := 165 } D tc lo ad zshC znnC fr zq [.ref (ad 0), .int a1, .int a2, .int a3] w r w_ := by
  refine zr_entry (by decide) (Nat.le_of_ble_eq_true rfl) fun p e s m args below meth c ls S hX hr hlk hE hl => ?_
  have S : CallFix p m c cX7_worthiest 5 s args (Cond.code yX7_worthiest cX7_worthiest 5 (some .int) :: zw_tb) RX7 := S
  have hx := S.1
  have hb := S.2.1
  have hK := hX.2.1
  have hl : lv_has ls 5 [(0, .ref (ad 0)), (1, .int a1), (2, .int a2), (3, .int a3)] := hl
  unfold fX7_worthiest at h
  refine lv_iload_n hx hb dX7_worthiest_0 rfl (lv_at hl 1 rfl) ?_
  obtain ⟨x10001, w10002, ew10002, h⟩ := zbd2E h
  refine zr_i (zr_runS (As := [.int a1]) S hX hE (kX7_isSheet l D tc lo ad fr zq a1 w x10001 w10002 ew10002) zyX7_isSheet qm_X7_203 ⟨rfl, rfl⟩ ⟨Nat.le_of_ble_eq_true rfl, Nat.le_of_ble_eq_true rfl⟩ rfl hl.1 rfl (Nat.le_of_ble_eq_true rfl) dX7_worthiest_1 ⟨Nat.zero_le _, Nat.zero_le _⟩) hE (fun H locs hE => ?_)
  refine lv_if_eq (tgt := 23) hx hb dX7_worthiest_4 (by decide) (fun c10003 => ?_) (fun c10003 => ?_)
  · have h := zif c10003 h
    refine zr_ldc S qc_X7_68 dX7_worthiest_23 ?_
    exact zr_iret S hE hr hlk h dX7_worthiest_25
  · have h := zif' c10003 h
    refine lv_iload_n hx hb dX7_worthiest_7 rfl (lv_at hl 2 rfl) ?_
    obtain ⟨x10004, w10005, ew10005, h⟩ := zbd2E h
    refine zr_i (zr_runS (As := [.int a2]) S hX hE (kX7_isDepth l D tc lo ad fr zq a2 w10002 x10004 w10005 ew10005) zyX7_isDepth qm_X7_65 ⟨rfl, rfl⟩ ⟨Nat.le_of_ble_eq_true rfl, Nat.le_of_ble_eq_true rfl⟩ rfl hl.1 rfl (Nat.le_of_ble_eq_true rfl) dX7_worthiest_8 ⟨Nat.zero_le _, Nat.zero_le _⟩) hE (fun H locs hE => ?_)
    refine lv_if_eq (tgt := 23) hx hb dX7_worthiest_11 (by decide) (fun c10006 => ?_) (fun c10006 => ?_)
    · have h := zif c10006 h
      refine zr_ldc S qc_X7_68 dX7_worthiest_23 ?_
      exact zr_iret S hE hr hlk h dX7_worthiest_25
    · have h := zif' c10006 h
      refine lv_iload_n hx hb dX7_worthiest_14 rfl (lv_at hl 3 rfl) ?_
      refine lv_iconst (v := 0) hx hb dX7_worthiest_15 (by decide) ?_
      refine lv_iconst (v := 2) hx hb dX7_worthiest_16 (by decide) ?_
      obtain ⟨x10007, w10008, ew10008, h⟩ := zbd2E h
      refine zr_i (zr_runS (As := [.int a3, .int 0, .int 2]) S hX hE (kX7_within l D tc lo ad fr zq a3 0 2 w10005 x10007 w10008 ew10008) zyX7_within qm_X7_61 ⟨rfl, rfl⟩ ⟨Nat.le_of_ble_eq_true rfl, Nat.le_of_ble_eq_true rfl⟩ rfl hl.1 rfl (Nat.le_of_ble_eq_true rfl) dX7_worthiest_17 ⟨Nat.zero_le _, Nat.zero_le _⟩) hE (fun H locs hE => ?_)
      refine lv_if_ne (tgt := 26) hx hb dX7_worthiest_20 (by decide) (fun c10009 => ?_) (fun c10009 => ?_)
      · have h := zif' c10009 h
        refine lv_aload_n hx hb dX7_worthiest_26 rfl (lv_at hl 0 rfl) ?_
        refine lv_iload_n hx hb dX7_worthiest_27 rfl (lv_at hl 1 rfl) ?_
        refine lv_iload_n hx hb dX7_worthiest_28 rfl (lv_at hl 2 rfl) ?_
        obtain ⟨x10010, w10011, ew10011, h⟩ := zbd2E h
        refine zr_i (zr_runV (As := [.int a1, .int a2]) S hX hE (kX7_makePlan l D tc lo ad fr zq a1 a2 w10008 x10010 w10011 ew10011) zyX7_makePlan qm_X7_206 zcl_X7 rfl (zc_0 w10008) ⟨rfl, rfl⟩ ⟨Nat.le_of_ble_eq_true rfl, Nat.le_of_ble_eq_true rfl⟩ rfl hl.1 rfl (Nat.le_of_ble_eq_true rfl) dX7_worthiest_29 ⟨Nat.zero_le _, Nat.zero_le _⟩) hE (fun H locs hE => ?_)
        refine lv_istore (lv' := [(4, .int x10010), (0, .ref (ad 0)), (1, .int a1), (2, .int a2), (3, .int a3)]) hx hb dX7_worthiest_32 hl (by decide) rfl (fun ls hl => ?_)
        refine lv_iload hx hb dX7_worthiest_34 (lv_at hl 0 rfl) ?_
        refine lv_if_eq (tgt := 42) hx hb dX7_worthiest_36 (by decide) (fun c10012 => ?_) (fun c10012 => ?_)
        · have h := zif c10012 h
          refine lv_aload_n hx hb dX7_worthiest_42 rfl (lv_at hl 1 rfl) ?_
          refine zr_getA S hK hE zcl_X7 (zc_0 w10011) 3 (Nat.le_of_ble_eq_true rfl) (q := 31) rfl qf_X7_25 dX7_worthiest_43 ?_
          refine lv_aload_n hx hb dX7_worthiest_46 rfl (lv_at hl 1 rfl) ?_
          refine zr_getA S hK hE zcl_X7 (zc_0 w10011) 0 (Nat.le_of_ble_eq_true rfl) (q := 1) rfl qf_X7_10 dX7_worthiest_47 ?_
          obtain ⟨w10013, ew10013, h⟩ := zbdE h
          refine zr_v (zr_runV (As := [.ref (ad 1)]) S hX hE (kX1_findWorthiest l D tc lo ad fr zq 1 w10011 w10013 ew10013) zyX1_findWorthiest qm_X7_221 zcl_X1 rfl (zc_31 w10011) ⟨rfl, rfl⟩ ⟨Nat.le_of_ble_eq_true rfl, Nat.le_of_ble_eq_true rfl⟩ rfl hl.1 rfl (Nat.le_of_ble_eq_true rfl) dX7_worthiest_50 ⟨Nat.zero_le _, Nat.zero_le _⟩) hE (fun H locs hE => ?_)
          refine lv_iload_n hx hb dX7_worthiest_53 rfl (lv_at hl 4 rfl) ?_
          by_cases c10015 : a3 = 0
          · refine lv_lookup (off := 26) (tgt := 80) hx hb dX7_worthiest_54 (by decide) (by rw [c10015]; decide) (by decide) ?_
            have h := zif c10015 h
            refine lv_aload_n hx hb dX7_worthiest_80 rfl (lv_at hl 1 rfl) ?_
            refine zr_getA S hK hE zcl_X7 (zc_0 w10013) 3 (Nat.le_of_ble_eq_true rfl) (q := 31) rfl qf_X7_25 dX7_worthiest_81 ?_
            obtain ⟨x10014, ex10014, h⟩ := zbdE h
            refine zr_getI S hK hE zcl_X1 (zc_31 w10013) 1 (Nat.le_of_ble_eq_true rfl) rfl qf_X7_225 dX7_worthiest_84 ex10014 ?_
            exact zr_iret S hE hr hlk h dX7_worthiest_87
          have h := zif' c10015 h
          by_cases c10017 : a3 = 1
          · refine lv_lookup (off := 34) (tgt := 88) hx hb dX7_worthiest_54 (by decide) (by rw [c10017]; decide) (by decide) ?_
            have h := zif c10017 h
            refine lv_aload_n hx hb dX7_worthiest_88 rfl (lv_at hl 1 rfl) ?_
            refine zr_getA S hK hE zcl_X7 (zc_0 w10013) 3 (Nat.le_of_ble_eq_true rfl) (q := 31) rfl qf_X7_25 dX7_worthiest_89 ?_
            obtain ⟨x10016, ex10016, h⟩ := zbdE h
            refine zr_getI S hK hE zcl_X1 (zc_31 w10013) 2 (Nat.le_of_ble_eq_true rfl) rfl qf_X7_228 dX7_worthiest_92 ex10016 ?_
            exact zr_iret S hE hr hlk h dX7_worthiest_95
          have h := zif' c10017 h
          refine lv_lookup (off := 42) (tgt := 96) hx hb dX7_worthiest_54 (by decide) (by show Op.lookupswitch.offset [(0, 26), (1, 34)] 42 _ = 42; rw [lv_osw c10015 (a := 0) (by decide), lv_osw c10017 (a := 1) (by decide)]; rfl) (by decide) ?_
          refine lv_aload_n hx hb dX7_worthiest_96 rfl (lv_at hl 1 rfl) ?_
          refine zr_getA S hK hE zcl_X7 (zc_0 w10013) 3 (Nat.le_of_ble_eq_true rfl) (q := 31) rfl qf_X7_25 dX7_worthiest_97 ?_
          obtain ⟨x10018, ex10018, h⟩ := zbdE h
          refine zr_getI S hK hE zcl_X1 (zc_31 w10013) 3 (Nat.le_of_ble_eq_true rfl) rfl qf_X7_231 dX7_worthiest_100 ex10018 ?_
          exact zr_iret S hE hr hlk h dX7_worthiest_103
        · have h := zif' c10012 h
          refine lv_iload hx hb dX7_worthiest_39 (lv_at hl 0 rfl) ?_
          exact zr_iret S hE hr hlk h dX7_worthiest_41
      · have h := zif c10009 h
        refine zr_ldc S qc_X7_68 dX7_worthiest_23 ?_
        exact zr_iret S hE hr hlk h dX7_worthiest_25
