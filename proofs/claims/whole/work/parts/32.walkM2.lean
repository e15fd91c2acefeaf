set_option maxHeartbeats 4000000 in
set_option maxRecDepth 100000 in
theorem kX8_isOf (l : Launch) (D : va_G) (tc : Nat → ClassId) (lo : Nat) (ad : Nat → Nat) (fr : va_W) (zq : zz_Q) (a1 : Int32) (a2 : Int32) (w : zz_W) (r : Int32) (w_ : zz_W) (h : fX8_isOf a1 a2 w = some (r, w_)) : zMi l yX8_isOf cX8_isOf 2 (some .boolean) { frames := 2, cells := 0, slots := 0, locals := 42 } D tc lo ad zshM znnM fr zq [.int a1, .int a2] w r w_ := by
  refine zr_entry (by decide) (Nat.le_of_ble_eq_true rfl) fun p e s m args below meth c ls S hX hr hlk hE hl => ?_
  have S : CallFix p m c cX8_isOf 2 s args (Cond.code yX8_isOf cX8_isOf 2 (some .boolean) :: zw_tb) RX8 := S
  have hx := S.1
  have hb := S.2.1
  have hK := hX.2.1
  have hl : lv_has ls 2 [(0, .int a1), (1, .int a2)] := hl
  unfold fX8_isOf at h
  have J26 : ∀ (s0 : Int32) (s1 : Int32) (s2 : Int32) (w : zz_W) (ls : Array Slot) (H : Heap) (locs : List Loc), fX8_isOf_26 a1 a2 s0 s1 s2 w = some (r, w_) → lv_has ls 2 [] → zE D tc lo ad zshM znnM fr w s.heap H locs → W p l e { frames := 2, cells := 0, slots := 0, locals := 42 } s m args below meth c H locs 0 0 (zZi D tc lo ad zshM znnM fr below args s r w_) (F0 m 26 ls [.int s2, .int s1, .int s0]) := by
    intro s0 s1 s2 w ls H locs h hl hE
    unfold fX8_isOf_26 at h
    obtain ⟨x17, w18, ew18, h⟩ := zbd2E h
    refine zr_i (zr_runS (As := [.int s0, .int s1, .int s2]) S hX hE (kX8_in l D tc lo ad fr zq s0 s1 s2 w x17 w18 ew18) zyX8_in qm_X8_81 ⟨rfl, rfl⟩ ⟨Nat.le_of_ble_eq_true rfl, Nat.le_of_ble_eq_true rfl⟩ rfl hl.1 rfl (Nat.le_of_ble_eq_true rfl) dX8_isOf_26 ⟨Nat.zero_le _, Nat.zero_le _⟩) hE (fun H locs hE => ?_)
    obtain ⟨x19, ex19, h⟩ := zbdE h
    obtain ⟨ezx19, enx19⟩ := zboo_in ex19
    refine zr_topi (congrArg some ezx19) ?_
    exact zr_zret S hE hr hlk enx19 h dX8_isOf_29
  refine lv_iload_n hx hb dX8_isOf_0 rfl (lv_at hl 0 rfl) ?_
  refine lv_iconst (v := 1) hx hb dX8_isOf_1 (by decide) ?_
  refine lv_icmp_ne (tgt := 12) hx hb dX8_isOf_2 (by decide) (fun c10001 => ?_) (fun c10001 => ?_)
  · have h := zif' c10001 h
    refine lv_iload_n hx hb dX8_isOf_12 rfl (lv_at hl 1 rfl) ?_
    refine lv_iconst (v := 1) hx hb dX8_isOf_13 (by decide) ?_
    refine lv_iload_n hx hb dX8_isOf_14 rfl (lv_at hl 0 rfl) ?_
    refine lv_iconst (v := 2) hx hb dX8_isOf_15 (by decide) ?_
    refine lv_icmp_ne (tgt := 24) hx hb dX8_isOf_16 (by decide) (fun c10002 => ?_) (fun c10002 => ?_)
    · have h := zif' c10002 h
      refine lv_bipush (v := 9) hx hb dX8_isOf_24 (by decide) ?_
      exact J26 a2 1 9 w ls _ _ h (lv_sub hl [] rfl) hE
    · have h := zif c10002 h
      refine lv_bipush (v := 99) hx hb dX8_isOf_19 (by decide) ?_
      refine lv_goto (tgt := 26) hx hb dX8_isOf_21 (by decide) ?_
      exact J26 a2 1 99 w ls _ _ h (lv_sub hl [] rfl) hE
  · have h := zif c10001 h
    refine lv_iload_n hx hb dX8_isOf_5 rfl (lv_at hl 1 rfl) ?_
    obtain ⟨x10003, w10004, ew10004, h⟩ := zbd2E h
    refine zr_i (zr_runS (As := [.int a2]) S hX hE (kX8_isCell l D tc lo ad fr zq a2 w x10003 w10004 ew10004) zyX8_isCell qm_X8_89 ⟨rfl, rfl⟩ ⟨Nat.le_of_ble_eq_true rfl, Nat.le_of_ble_eq_true rfl⟩ rfl hl.1 rfl (Nat.le_of_ble_eq_true rfl) dX8_isOf_6 ⟨Nat.zero_le _, Nat.zero_le _⟩) hE (fun H locs hE => ?_)
    refine lv_goto (tgt := 29) hx hb dX8_isOf_9 (by decide) ?_
    obtain ⟨x10005, ex10005, h⟩ := zbdE h
    obtain ⟨ezx10005, enx10005⟩ := zboo_in ex10005
    refine zr_topi (congrArg some ezx10005) ?_
    exact zr_zret S hE hr hlk enx10005 h dX8_isOf_29
set_option maxHeartbeats 4000000 in
set_option maxRecDepth 100000 in
theorem kX8_isTest (l : Launch) (D : va_G) (tc : Nat → ClassId) (lo : Nat) (ad : Nat → Nat) (fr : va_W) (zq : zz_Q) (a1 : Int32) (a2 : Int32) (w : zz_W) (r : Int32) (w_ : zz_W) (h : fX8_isTest a1 a2 w = some (r, w_)) : zMi l yX8_isTest cX8_isTest 2 (some .boolean) { frames := 2, cells := 0, slots := 0, locals := 42 } D tc lo ad zshM znnM fr zq [.int a1, .int a2] w r w_ := by
  refine zr_entry (by decide) (Nat.le_of_ble_eq_true rfl) fun p e s m args below meth c ls S hX hr hlk hE hl => ?_
  have S : CallFix p m c cX8_isTest 2 s args (Cond.code yX8_isTest cX8_isTest 2 (some .boolean) :: zw_tb) RX8 := S
  have hx := S.1
  have hb := S.2.1
  have hK := hX.2.1
  have hl : lv_has ls 2 [(0, .int a1), (1, .int a2)] := hl
  unfold fX8_isTest at h
  refine lv_iload_n hx hb dX8_isTest_0 rfl (lv_at hl 0 rfl) ?_
  refine lv_iconst (v := 0) hx hb dX8_isTest_1 (by decide) ?_
  refine lv_iconst (v := 3) hx hb dX8_isTest_2 (by decide) ?_
  obtain ⟨x10001, w10002, ew10002, h⟩ := zbd2E h
  refine zr_i (zr_runS (As := [.int a1, .int 0, .int 3]) S hX hE (kX8_in l D tc lo ad fr zq a1 0 3 w x10001 w10002 ew10002) zyX8_in qm_X8_81 ⟨rfl, rfl⟩ ⟨Nat.le_of_ble_eq_true rfl, Nat.le_of_ble_eq_true rfl⟩ rfl hl.1 rfl (Nat.le_of_ble_eq_true rfl) dX8_isTest_3 ⟨Nat.zero_le _, Nat.zero_le _⟩) hE (fun H locs hE => ?_)
  refine lv_if_eq (tgt := 20) hx hb dX8_isTest_6 (by decide) (fun c10003 => ?_) (fun c10003 => ?_)
  · have h := zif c10003 h
    refine lv_iconst (v := 0) hx hb dX8_isTest_20 (by decide) ?_
    exact zr_zret S hE hr hlk (by decide) h dX8_isTest_21
  · have h := zif' c10003 h
    refine lv_iload_n hx hb dX8_isTest_9 rfl (lv_at hl 1 rfl) ?_
    obtain ⟨x10004, w10005, ew10005, h⟩ := zbd2E h
    refine zr_i (zr_runS (As := [.int a2]) S hX hE (kX8_isCell l D tc lo ad fr zq a2 w10002 x10004 w10005 ew10005) zyX8_isCell qm_X8_89 ⟨rfl, rfl⟩ ⟨Nat.le_of_ble_eq_true rfl, Nat.le_of_ble_eq_true rfl⟩ rfl hl.1 rfl (Nat.le_of_ble_eq_true rfl) dX8_isTest_10 ⟨Nat.zero_le _, Nat.zero_le _⟩) hE (fun H locs hE => ?_)
    refine lv_if_eq (tgt := 20) hx hb dX8_isTest_13 (by decide) (fun c10006 => ?_) (fun c10006 => ?_)
    · have h := zif c10006 h
      refine lv_iconst (v := 0) hx hb dX8_isTest_20 (by decide) ?_
      exact zr_zret S hE hr hlk (by decide) h dX8_isTest_21
    · have h := zif' c10006 h
      refine lv_iconst (v := 1) hx hb dX8_isTest_16 (by decide) ?_
      refine lv_goto (tgt := 21) hx hb dX8_isTest_17 (by decide) ?_
      exact zr_zret S hE hr hlk (by decide) h dX8_isTest_21
set_option maxHeartbeats 4000000 in
set_option maxRecDepth 100000 in
theorem kX8_lossAt (l : Launch) (D : va_G) (tc : Nat → ClassId) (lo : Nat) (ad : Nat → Nat) (fr : va_W) (zq : zz_Q) (a1 : Int32) (a2 : Int32) (w : zz_W) (r : Int64) (w_ : zz_W) (h : fX8_lossAt a1 a2 w = some (r, w_)) : zMl l yX8_lossAt cX8_lossAt 7 (some .long) { frames := 2, cells := 0, slots := 0, locals := 47 } D tc lo ad zshM znnM fr zq [.ref (ad 0), .int a1, .int a2] w r w_ := by
  refine zr_entry (by decide) (Nat.le_of_ble_eq_true rfl) fun p e s m args below meth c ls S hX hr hlk hE hl => ?_
  have S : CallFix p m c cX8_lossAt 7 s args (Cond.code yX8_lossAt cX8_lossAt 7 (some .long) :: zw_tb) RX8 := S
  have hx := S.1
  have hb := S.2.1
  have hK := hX.2.1
  have hl : lv_has ls 7 [(0, .ref (ad 0)), (1, .int a1), (2, .int a2)] := hl
  unfold fX8_lossAt at h
  have L5 : ∀ (n : Nat) (l1 : Int32) (l2 : Int32) (l3 : Int64) (l5 : Int32) (w : zz_W) (ls : Array Slot) (H : Heap) (locs : List Loc), fX8_lossAt_5 a1 a2 n l1 l2 l3 l5 w = some (r, w_) → lv_has ls 7 [(0, .ref (ad 0)), (1, .int l1), (2, .int l2), (3, .long l3), (5, .int l5)] → zE D tc lo ad zshM znnM fr w s.heap H locs → W p l e { frames := 2, cells := 0, slots := 0, locals := 47 } s m args below meth c H locs 0 0 (zZl D tc lo ad zshM znnM fr below args s r w_) (F0 m 5 ls []) := by
    intro n5
    induction n5 with
    | zero => intro l1 l2 l3 l5 w ls H locs h hl hE; rw [fX8_lossAt_5] at h; cases h
    | succ n5 ih5 =>
      intro l1 l2 l3 l5 w ls H locs h hl hE
      rw [fX8_lossAt_5] at h
      have J42 : ∀ (l1 : Int32) (l2 : Int32) (l3 : Int64) (l5 : Int32) (s0 : Int32) (w : zz_W) (ls : Array Slot) (H : Heap) (locs : List Loc), fX8_lossAt_42 a1 a2 (fX8_lossAt_5 a1 a2 n5) l1 l2 l3 l5 s0 w = some (r, w_) → lv_has ls 7 [(0, .ref (ad 0)), (1, .int l1), (2, .int l2), (3, .long l3), (5, .int l5)] → zE D tc lo ad zshM znnM fr w s.heap H locs → W p l e { frames := 2, cells := 0, slots := 0, locals := 47 } s m args below meth c H locs 0 0 (zZl D tc lo ad zshM znnM fr below args s r w_) (F0 m 42 ls [.int s0]) := by
        intro l1 l2 l3 l5 s0 w ls H locs h hl hE
        unfold fX8_lossAt_42 at h
        refine lv_istore (lv' := [(6, .int s0), (0, .ref (ad 0)), (1, .int l1), (2, .int l2), (3, .long l3), (5, .int l5)]) hx hb dX8_lossAt_42 hl (by decide) rfl (fun ls hl => ?_)
        refine lv_lload_n hx hb dX8_lossAt_44 rfl (lv_at hl 4 rfl) ?_
        refine lv_iload hx hb dX8_lossAt_45 (lv_at hl 0 rfl) ?_
        refine lv_if_eq (tgt := 79) hx hb dX8_lossAt_47 (by decide) (fun c35 => ?_) (fun c35 => ?_)
        · have h := zif c35 h
          refine lv_lconst (v := 0) hx hb dX8_lossAt_79 (by decide) ?_
          refine lv_ladd hx hb dX8_lossAt_80 ?_
          obtain ⟨x36, ex36, h⟩ := zbdE h
          refine zr_topl ex36 ?_
          refine lv_lstore_n (lv' := [(3, .long x36), (6, .int s0), (0, .ref (ad 0)), (1, .int l1), (2, .int l2), (5, .int l5)]) hx hb dX8_lossAt_81 rfl hl (by decide) rfl (fun ls hl => ?_)
          obtain ⟨x37, ex37, h⟩ := zbdE h
          refine lv_iinc (v := x37) (lv' := [(5, .int x37), (3, .long x36), (6, .int s0), (0, .ref (ad 0)), (1, .int l1), (2, .int l2)]) hx hb dX8_lossAt_82 hl (k := 5) rfl (zinc (k := 1) (by decide) ex37) (by decide) rfl (fun ls hl => ?_)
          refine lv_goto (tgt := 5) hx hb dX8_lossAt_85 (by decide) ?_
          exact ih5 l1 l2 x36 x37 w ls _ _ h (lv_sub hl [3, 4, 5, 1, 0] rfl) hE
        · have h := zif' c35 h
          refine lv_aload_n hx hb dX8_lossAt_50 rfl (lv_at hl 1 rfl) ?_
          refine lv_iload hx hb dX8_lossAt_51 (lv_at hl 5 rfl) ?_
          refine lv_iconst (v := 4) hx hb dX8_lossAt_53 (by decide) ?_
          obtain ⟨x38, w39, ew39, h⟩ := zbd2E h
          refine zr_i (zr_runV (As := [.int l5, .int 4]) S hX hE (kX8_of l D tc lo ad fr zq l5 4 w x38 w39 ew39) zyX8_of qm_X8_103 zcl_X8 rfl (zm_0 w) ⟨rfl, rfl⟩ ⟨Nat.le_of_ble_eq_true rfl, Nat.le_of_ble_eq_true rfl⟩ rfl hl.1 rfl (Nat.le_of_ble_eq_true rfl) dX8_lossAt_54 ⟨Nat.zero_le _, Nat.zero_le _⟩) hE (fun H locs hE => ?_)
          refine lv_i2l hx hb dX8_lossAt_57 rfl ?_
          refine lv_aload_n hx hb dX8_lossAt_58 rfl (lv_at hl 1 rfl) ?_
          refine zr_getA S hK hE zcl_X8 (zm_0 w39) 4 (Nat.le_of_ble_eq_true rfl) (q := 4) rfl qf_X8_19 dX8_lossAt_59 ?_
          refine lv_iload hx hb dX8_lossAt_62 (lv_at hl 5 rfl) ?_
          obtain ⟨x40, ex40, h⟩ := zbdE h
          refine zr_iald S hK hE (zm_4 w39) dX8_lossAt_64 ex40 ?_
          refine lv_i2l hx hb dX8_lossAt_65 rfl ?_
          refine lv_lmul hx hb dX8_lossAt_66 ?_
          refine lv_aload_n hx hb dX8_lossAt_67 rfl (lv_at hl 1 rfl) ?_
          refine zr_getA S hK hE zcl_X8 (zm_0 w39) 5 (Nat.le_of_ble_eq_true rfl) (q := 5) rfl qf_X8_22 dX8_lossAt_68 ?_
          refine lv_iload hx hb dX8_lossAt_71 (lv_at hl 5 rfl) ?_
          obtain ⟨x41, ex41, h⟩ := zbdE h
          refine zr_iald S hK hE (zm_5 w39) dX8_lossAt_73 ex41 ?_
          refine lv_i2l hx hb dX8_lossAt_74 rfl ?_
          refine lv_lmul hx hb dX8_lossAt_75 ?_
          refine lv_goto (tgt := 80) hx hb dX8_lossAt_76 (by decide) ?_
          refine lv_ladd hx hb dX8_lossAt_80 ?_
          obtain ⟨x42, ex42, h⟩ := zbdE h
          refine zr_topl ex42 ?_
          refine lv_lstore_n (lv' := [(3, .long x42), (6, .int s0), (0, .ref (ad 0)), (1, .int l1), (2, .int l2), (5, .int l5)]) hx hb dX8_lossAt_81 rfl hl (by decide) rfl (fun ls hl => ?_)
          obtain ⟨x43, ex43, h⟩ := zbdE h
          refine lv_iinc (v := x43) (lv' := [(5, .int x43), (3, .long x42), (6, .int s0), (0, .ref (ad 0)), (1, .int l1), (2, .int l2)]) hx hb dX8_lossAt_82 hl (k := 5) rfl (zinc (k := 1) (by decide) ex43) (by decide) rfl (fun ls hl => ?_)
          refine lv_goto (tgt := 5) hx hb dX8_lossAt_85 (by decide) ?_
          exact ih5 l1 l2 x42 x43 w39 ls _ _ h (lv_sub hl [3, 4, 5, 1, 0] rfl) hE
      have J41 : ∀ (l1 : Int32) (l2 : Int32) (l3 : Int64) (l5 : Int32) (w : zz_W) (ls : Array Slot) (H : Heap) (locs : List Loc), fX8_lossAt_41 a1 a2 (fX8_lossAt_5 a1 a2 n5) l1 l2 l3 l5 w = some (r, w_) → lv_has ls 7 [(0, .ref (ad 0)), (1, .int l1), (2, .int l2), (3, .long l3), (5, .int l5)] → zE D tc lo ad zshM znnM fr w s.heap H locs → W p l e { frames := 2, cells := 0, slots := 0, locals := 47 } s m args below meth c H locs 0 0 (zZl D tc lo ad zshM znnM fr below args s r w_) (F0 m 41 ls []) := by
        intro l1 l2 l3 l5 w ls H locs h hl hE
        unfold fX8_lossAt_41 at h
        refine lv_iconst (v := 0) hx hb dX8_lossAt_41 (by decide) ?_
        exact J42 l1 l2 l3 l5 0 w ls _ _ h (lv_sub hl [0, 1, 2, 3, 4] rfl) hE
      refine lv_iload hx hb dX8_lossAt_5 (lv_at hl 4 rfl) ?_
      refine lv_aload_n hx hb dX8_lossAt_7 rfl (lv_at hl 0 rfl) ?_
      refine zr_getA S hK hE zcl_X8 (zm_0 w) 0 (Nat.le_of_ble_eq_true rfl) (q := 1) rfl qf_X8_9 dX8_lossAt_8 ?_
      refine lv_iconst (v := 1) hx hb dX8_lossAt_11 (by decide) ?_
      obtain ⟨x44, ex44, h⟩ := zbdE h
      refine zr_iald S hK hE (zm_1 w) dX8_lossAt_12 ex44 ?_
      refine lv_icmp_ge (tgt := 88) hx hb dX8_lossAt_13 (by decide) (fun c45 => ?_) (fun c45 => ?_)
      · have h := zif c45 h
        refine lv_lload_n hx hb dX8_lossAt_88 rfl (lv_at hl 3 rfl) ?_
        exact zr_lret S hE hr hlk h dX8_lossAt_89
      · have h := zif' c45 h
        refine lv_aload_n hx hb dX8_lossAt_16 rfl (lv_at hl 0 rfl) ?_
        refine lv_iload hx hb dX8_lossAt_17 (lv_at hl 4 rfl) ?_
        refine lv_iload_n hx hb dX8_lossAt_19 rfl (lv_at hl 1 rfl) ?_
        obtain ⟨x46, w47, ew47, h⟩ := zbd2E h
        refine zr_i (zr_runV (As := [.int l5, .int l1]) S hX hE (kX8_doesPass l D tc lo ad fr zq l5 l1 w x46 w47 ew47) zyX8_doesPass qm_X8_111 zcl_X8 rfl (zm_0 w) ⟨rfl, rfl⟩ ⟨Nat.le_of_ble_eq_true rfl, Nat.le_of_ble_eq_true rfl⟩ rfl hl.1 rfl (Nat.le_of_ble_eq_true rfl) dX8_lossAt_20 ⟨Nat.zero_le _, Nat.zero_le _⟩) hE (fun H locs hE => ?_)
        refine lv_if_eq (tgt := 41) hx hb dX8_lossAt_23 (by decide) (fun c48 => ?_) (fun c48 => ?_)
        · have h := zif c48 h
          exact J41 l1 l2 l3 l5 w47 ls _ _ h (lv_sub hl [0, 1, 2, 3, 4] rfl) hE
        · have h := zif' c48 h
          refine lv_aload_n hx hb dX8_lossAt_26 rfl (lv_at hl 0 rfl) ?_
          refine lv_iload hx hb dX8_lossAt_27 (lv_at hl 4 rfl) ?_
          refine lv_iconst (v := 3) hx hb dX8_lossAt_29 (by decide) ?_
          obtain ⟨x49, w50, ew50, h⟩ := zbd2E h
          refine zr_i (zr_runV (As := [.int l5, .int 3]) S hX hE (kX8_of l D tc lo ad fr zq l5 3 w47 x49 w50 ew50) zyX8_of qm_X8_103 zcl_X8 rfl (zm_0 w47) ⟨rfl, rfl⟩ ⟨Nat.le_of_ble_eq_true rfl, Nat.le_of_ble_eq_true rfl⟩ rfl hl.1 rfl (Nat.le_of_ble_eq_true rfl) dX8_lossAt_30 ⟨Nat.zero_le _, Nat.zero_le _⟩) hE (fun H locs hE => ?_)
          refine lv_iload_n hx hb dX8_lossAt_33 rfl (lv_at hl 2 rfl) ?_
          refine lv_icmp_gt (tgt := 41) hx hb dX8_lossAt_34 (by decide) (fun c51 => ?_) (fun c51 => ?_)
          · have h := zif c51 h
            exact J41 l1 l2 l3 l5 w50 ls _ _ h (lv_sub hl [0, 1, 2, 3, 4] rfl) hE
          · have h := zif' c51 h
            refine lv_iconst (v := 1) hx hb dX8_lossAt_37 (by decide) ?_
            refine lv_goto (tgt := 42) hx hb dX8_lossAt_38 (by decide) ?_
            exact J42 l1 l2 l3 l5 1 w50 ls _ _ h (lv_sub hl [0, 1, 2, 3, 4] rfl) hE
  refine lv_lconst (v := 0) hx hb dX8_lossAt_0 (by decide) ?_
  refine lv_lstore_n (lv' := [(3, .long 0), (0, .ref (ad 0)), (1, .int a1), (2, .int a2)]) hx hb dX8_lossAt_1 rfl hl (by decide) rfl (fun ls hl => ?_)
  refine lv_iconst (v := 0) hx hb dX8_lossAt_2 (by decide) ?_
  refine lv_istore (lv' := [(5, .int 0), (3, .long 0), (0, .ref (ad 0)), (1, .int a1), (2, .int a2)]) hx hb dX8_lossAt_3 hl (by decide) rfl (fun ls hl => ?_)
  exact L5 zfuel a1 a2 0 0 w ls _ _ h (lv_sub hl [2, 3, 4, 1, 0] rfl) hE
set_option maxHeartbeats 4000000 in
set_option maxRecDepth 100000 in
theorem kX8_leastOf (l : Launch) (D : va_G) (tc : Nat → ClassId) (lo : Nat) (ad : Nat → Nat) (fr : va_W) (zq : zz_Q) (a1 : Int32) (a2 : Int32) (w : zz_W) (r : Int32) (w_ : zz_W) (h : fX8_leastOf a1 a2 w = some (r, w_)) : zMi l yX8_leastOf cX8_leastOf 7 (some .int) { frames := 3, cells := 0, slots := 0, locals := 73 } D tc lo ad zshM znnM fr zq [.ref (ad 0), .int a1, .int a2] w r w_ := by
  refine zr_entry (by decide) (Nat.le_of_ble_eq_true rfl) fun p e s m args below meth c ls S hX hr hlk hE hl => ?_
  have S : CallFix p m c cX8_leastOf 7 s args (Cond.code yX8_leastOf cX8_leastOf 7 (some .int) :: zw_tb) RX8 := S
  have hx := S.1
  have hb := S.2.1
  have hK := hX.2.1
  have hl : lv_has ls 7 [(0, .ref (ad 0)), (1, .int a1), (2, .int a2)] := hl
  unfold fX8_leastOf at h
  have L5 : ∀ (n : Nat) (l1 : Int32) (l2 : Int32) (l3 : Int32) (l4 : Int32) (w : zz_W) (ls : Array Slot) (H : Heap) (locs : List Loc), fX8_leastOf_5 a1 a2 n l1 l2 l3 l4 w = some (r, w_) → lv_has ls 7 [(0, .ref (ad 0)), (1, .int l1), (2, .int l2), (3, .int l3), (4, .int l4)] → zE D tc lo ad zshM znnM fr w s.heap H locs → W p l e { frames := 3, cells := 0, slots := 0, locals := 73 } s m args below meth c H locs 0 0 (zZi D tc lo ad zshM znnM fr below args s r w_) (F0 m 5 ls []) := by
    intro n5
    induction n5 with
    | zero => intro l1 l2 l3 l4 w ls H locs h hl hE; rw [fX8_leastOf_5] at h; cases h
    | succ n5 ih5 =>
      intro l1 l2 l3 l4 w ls H locs h hl hE
      rw [fX8_leastOf_5] at h
      have J64 : ∀ (l1 : Int32) (l2 : Int32) (l3 : Int32) (l4 : Int32) (l5 : Int32) (s0 : Int32) (w : zz_W) (ls : Array Slot) (H : Heap) (locs : List Loc), fX8_leastOf_64 a1 a2 (fX8_leastOf_5 a1 a2 n5) l1 l2 l3 l4 l5 s0 w = some (r, w_) → lv_has ls 7 [(0, .ref (ad 0)), (1, .int l1), (2, .int l2), (3, .int l3), (4, .int l4), (5, .int l5)] → zE D tc lo ad zshM znnM fr w s.heap H locs → W p l e { frames := 3, cells := 0, slots := 0, locals := 73 } s m args below meth c H locs 0 0 (zZi D tc lo ad zshM znnM fr below args s r w_) (F0 m 64 ls [.int s0]) := by
        intro l1 l2 l3 l4 l5 s0 w ls H locs h hl hE
        unfold fX8_leastOf_64 at h
        refine lv_istore (lv' := [(6, .int s0), (0, .ref (ad 0)), (1, .int l1), (2, .int l2), (3, .int l3), (4, .int l4), (5, .int l5)]) hx hb dX8_leastOf_64 hl (by decide) rfl (fun ls hl => ?_)
        refine lv_iload hx hb dX8_leastOf_66 (lv_at hl 0 rfl) ?_
        refine lv_if_eq (tgt := 76) hx hb dX8_leastOf_68 (by decide) (fun c33 => ?_) (fun c33 => ?_)
        · have h := zif c33 h
          refine lv_iload_n hx hb dX8_leastOf_76 rfl (lv_at hl 4 rfl) ?_
          refine lv_istore_n (lv' := [(3, .int l3), (6, .int s0), (0, .ref (ad 0)), (1, .int l1), (2, .int l2), (4, .int l4), (5, .int l5)]) hx hb dX8_leastOf_77 rfl hl (by decide) rfl (fun ls hl => ?_)
          obtain ⟨x34, ex34, h⟩ := zbdE h
          refine lv_iinc (v := x34) (lv' := [(4, .int x34), (3, .int l3), (6, .int s0), (0, .ref (ad 0)), (1, .int l1), (2, .int l2), (5, .int l5)]) hx hb dX8_leastOf_78 hl (k := 5) rfl (zinc (k := 1) (by decide) ex34) (by decide) rfl (fun ls hl => ?_)
          refine lv_goto (tgt := 5) hx hb dX8_leastOf_81 (by decide) ?_
          exact ih5 l1 l2 l3 x34 w ls _ _ h (lv_sub hl [3, 4, 5, 1, 0] rfl) hE
        · have h := zif' c33 h
          refine lv_iload hx hb dX8_leastOf_71 (lv_at hl 6 rfl) ?_
          refine lv_goto (tgt := 77) hx hb dX8_leastOf_73 (by decide) ?_
          refine lv_istore_n (lv' := [(3, .int l5), (6, .int s0), (0, .ref (ad 0)), (1, .int l1), (2, .int l2), (4, .int l4), (5, .int l5)]) hx hb dX8_leastOf_77 rfl hl (by decide) rfl (fun ls hl => ?_)
          obtain ⟨x35, ex35, h⟩ := zbdE h
          refine lv_iinc (v := x35) (lv' := [(4, .int x35), (3, .int l5), (6, .int s0), (0, .ref (ad 0)), (1, .int l1), (2, .int l2), (5, .int l5)]) hx hb dX8_leastOf_78 hl (k := 5) rfl (zinc (k := 1) (by decide) ex35) (by decide) rfl (fun ls hl => ?_)
          refine lv_goto (tgt := 5) hx hb dX8_leastOf_81 (by decide) ?_
          exact ih5 l1 l2 l5 x35 w ls _ _ h (lv_sub hl [3, 4, 5, 1, 0] rfl) hE
      have J63 : ∀ (l1 : Int32) (l2 : Int32) (l3 : Int32) (l4 : Int32) (l5 : Int32) (w : zz_W) (ls : Array Slot) (H : Heap) (locs : List Loc), fX8_leastOf_63 a1 a2 (fX8_leastOf_5 a1 a2 n5) l1 l2 l3 l4 l5 w = some (r, w_) → lv_has ls 7 [(0, .ref (ad 0)), (1, .int l1), (2, .int l2), (3, .int l3), (4, .int l4), (5, .int l5)] → zE D tc lo ad zshM znnM fr w s.heap H locs → W p l e { frames := 3, cells := 0, slots := 0, locals := 73 } s m args below meth c H locs 0 0 (zZi D tc lo ad zshM znnM fr below args s r w_) (F0 m 63 ls []) := by
        intro l1 l2 l3 l4 l5 w ls H locs h hl hE
        unfold fX8_leastOf_63 at h
        refine lv_iconst (v := 0) hx hb dX8_leastOf_63 (by decide) ?_
        exact J64 l1 l2 l3 l4 l5 0 w ls _ _ h (lv_sub hl [0, 1, 2, 3, 4, 5] rfl) hE
      have J59 : ∀ (l1 : Int32) (l2 : Int32) (l3 : Int32) (l4 : Int32) (l5 : Int32) (w : zz_W) (ls : Array Slot) (H : Heap) (locs : List Loc), fX8_leastOf_59 a1 a2 (fX8_leastOf_5 a1 a2 n5) l1 l2 l3 l4 l5 w = some (r, w_) → lv_has ls 7 [(0, .ref (ad 0)), (1, .int l1), (2, .int l2), (3, .int l3), (4, .int l4), (5, .int l5)] → zE D tc lo ad zshM znnM fr w s.heap H locs → W p l e { frames := 3, cells := 0, slots := 0, locals := 73 } s m args below meth c H locs 0 0 (zZi D tc lo ad zshM znnM fr below args s r w_) (F0 m 59 ls []) := by
        intro l1 l2 l3 l4 l5 w ls H locs h hl hE
        unfold fX8_leastOf_59 at h
        refine lv_iconst (v := 1) hx hb dX8_leastOf_59 (by decide) ?_
        refine lv_goto (tgt := 64) hx hb dX8_leastOf_60 (by decide) ?_
        exact J64 l1 l2 l3 l4 l5 1 w ls _ _ h (lv_sub hl [0, 1, 2, 3, 4, 5] rfl) hE
      refine lv_iload hx hb dX8_leastOf_5 (lv_at hl 4 rfl) ?_
      refine lv_aload_n hx hb dX8_leastOf_7 rfl (lv_at hl 0 rfl) ?_
      refine zr_getA S hK hE zcl_X8 (zm_0 w) 26 (Nat.le_of_ble_eq_true rfl) (q := 16) rfl qf_X8_57 dX8_leastOf_8 ?_
      refine lv_iload_n hx hb dX8_leastOf_11 rfl (lv_at hl 1 rfl) ?_
      obtain ⟨x36, ex36, h⟩ := zbdE h
      refine zr_iald S hK hE (zm_16 w) dX8_leastOf_12 ex36 ?_
      refine lv_icmp_ge (tgt := 84) hx hb dX8_leastOf_13 (by decide) (fun c37 => ?_) (fun c37 => ?_)
      · have h := zif c37 h
        refine lv_iload_n hx hb dX8_leastOf_84 rfl (lv_at hl 3 rfl) ?_
        exact zr_iret S hE hr hlk h dX8_leastOf_85
      · have h := zif' c37 h
        refine lv_aload_n hx hb dX8_leastOf_16 rfl (lv_at hl 0 rfl) ?_
        refine zr_getA S hK hE zcl_X8 (zm_0 w) 27 (Nat.le_of_ble_eq_true rfl) (q := 17) rfl qf_X8_60 dX8_leastOf_17 ?_
        refine lv_bipush (v := 24) hx hb dX8_leastOf_20 (by decide) ?_
        refine lv_iload_n hx hb dX8_leastOf_22 rfl (lv_at hl 1 rfl) ?_
        refine lv_imul hx hb dX8_leastOf_23 ?_
        refine lv_iload hx hb dX8_leastOf_24 (lv_at hl 4 rfl) ?_
        refine lv_iadd hx hb dX8_leastOf_26 ?_
        obtain ⟨x38, ex38, h⟩ := zbdE h
        refine zr_iald S hK hE (zm_17 w) dX8_leastOf_27 ex38 ?_
        refine lv_istore (lv' := [(5, .int x38), (0, .ref (ad 0)), (1, .int l1), (2, .int l2), (3, .int l3), (4, .int l4)]) hx hb dX8_leastOf_28 hl (by decide) rfl (fun ls hl => ?_)
        refine lv_iload hx hb dX8_leastOf_30 (lv_at hl 0 rfl) ?_
        obtain ⟨x39, w40, ew40, h⟩ := zbd2E h
        refine zr_i (zr_runS (As := [.int x38]) S hX hE (kX8_isCell l D tc lo ad fr zq x38 w x39 w40 ew40) zyX8_isCell qm_X8_89 ⟨rfl, rfl⟩ ⟨Nat.le_of_ble_eq_true rfl, Nat.le_of_ble_eq_true rfl⟩ rfl hl.1 rfl (Nat.le_of_ble_eq_true rfl) dX8_leastOf_32 ⟨Nat.zero_le _, Nat.zero_le _⟩) hE (fun H locs hE => ?_)
        refine lv_if_eq (tgt := 63) hx hb dX8_leastOf_35 (by decide) (fun c41 => ?_) (fun c41 => ?_)
        · have h := zif c41 h
          exact J63 l1 l2 l3 l4 x38 w40 ls _ _ h (lv_sub hl [1, 2, 3, 4, 5, 0] rfl) hE
        · have h := zif' c41 h
          refine lv_iload_n hx hb dX8_leastOf_38 rfl (lv_at hl 4 rfl) ?_
          refine lv_if_lt (tgt := 59) hx hb dX8_leastOf_39 (by decide) (fun c42 => ?_) (fun c42 => ?_)
          · have h := zif c42 h
            exact J59 l1 l2 l3 l4 x38 w40 ls _ _ h (lv_sub hl [1, 2, 3, 4, 5, 0] rfl) hE
          · have h := zif' c42 h
            refine lv_aload_n hx hb dX8_leastOf_42 rfl (lv_at hl 1 rfl) ?_
            refine lv_iload hx hb dX8_leastOf_43 (lv_at hl 0 rfl) ?_
            refine lv_iload_n hx hb dX8_leastOf_45 rfl (lv_at hl 3 rfl) ?_
            obtain ⟨x43, w44, ew44, h⟩ := zbd2E h
            refine zr_l (zr_runV (As := [.int x38, .int l2]) S hX hE (kX8_lossAt l D tc lo ad fr zq x38 l2 w40 x43 w44 ew44) zyX8_lossAt qm_X8_190 zcl_X8 rfl (zm_0 w40) ⟨rfl, rfl⟩ ⟨Nat.le_of_ble_eq_true rfl, Nat.le_of_ble_eq_true rfl⟩ rfl hl.1 rfl (Nat.le_of_ble_eq_true rfl) dX8_leastOf_46 ⟨Nat.zero_le _, Nat.zero_le _⟩) hE (fun H locs hE => ?_)
            refine lv_aload_n hx hb dX8_leastOf_49 rfl (lv_at hl 1 rfl) ?_
            refine lv_iload_n hx hb dX8_leastOf_50 rfl (lv_at hl 4 rfl) ?_
            refine lv_iload_n hx hb dX8_leastOf_51 rfl (lv_at hl 3 rfl) ?_
            obtain ⟨x45, w46, ew46, h⟩ := zbd2E h
            refine zr_l (zr_runV (As := [.int l3, .int l2]) S hX hE (kX8_lossAt l D tc lo ad fr zq l3 l2 w44 x45 w46 ew46) zyX8_lossAt qm_X8_190 zcl_X8 rfl (zm_0 w44) ⟨rfl, rfl⟩ ⟨Nat.le_of_ble_eq_true rfl, Nat.le_of_ble_eq_true rfl⟩ rfl hl.1 rfl (Nat.le_of_ble_eq_true rfl) dX8_leastOf_52 ⟨Nat.zero_le _, Nat.zero_le _⟩) hE (fun H locs hE => ?_)
            refine W.lcmp hx hb dX8_leastOf_55 ?_
            refine lv_if_ge (tgt := 63) hx hb dX8_leastOf_56 (by decide) (fun c47 => ?_) (fun c47 => ?_)
            · have h := zif c47 h
              exact J63 l1 l2 l3 l4 x38 w46 ls _ _ h (lv_sub hl [1, 2, 3, 4, 5, 0] rfl) hE
            · have h := zif' c47 h
              exact J59 l1 l2 l3 l4 x38 w46 ls _ _ h (lv_sub hl [1, 2, 3, 4, 5, 0] rfl) hE
  refine lv_iconst (v := (-1)) hx hb dX8_leastOf_0 (by decide) ?_
  obtain ⟨x10001, ex10001, h⟩ := zbdE h
  refine zr_topi ex10001 ?_
  refine lv_istore_n (lv' := [(3, .int x10001), (0, .ref (ad 0)), (1, .int a1), (2, .int a2)]) hx hb dX8_leastOf_1 rfl hl (by decide) rfl (fun ls hl => ?_)
  refine lv_iconst (v := 0) hx hb dX8_leastOf_2 (by decide) ?_
  refine lv_istore (lv' := [(4, .int 0), (3, .int x10001), (0, .ref (ad 0)), (1, .int a1), (2, .int a2)]) hx hb dX8_leastOf_3 hl (by decide) rfl (fun ls hl => ?_)
  exact L5 zfuel a1 a2 x10001 0 w ls _ _ h (lv_sub hl [2, 3, 4, 1, 0] rfl) hE
set_option maxHeartbeats 4000000 in
set_option maxRecDepth 100000 in
theorem kX8_weighsAll (l : Launch) (D : va_G) (tc : Nat → ClassId) (lo : Nat) (ad : Nat → Nat) (fr : va_W) (zq : zz_Q) (w : zz_W) (w_ : zz_W) (h : fX8_weighsAll w = some w_) : zMv l yX8_weighsAll cX8_weighsAll 2 none { frames := 3, cells := 0, slots := 0, locals := 70 } D tc lo ad zshM znnM fr zq [.ref (ad 0)] w w_ := by
  refine zr_entry (by decide) (Nat.le_of_ble_eq_true rfl) fun p e s m args below meth c ls S hX hr hlk hE hl => ?_
  have S : CallFix p m c cX8_weighsAll 2 s args (Cond.code yX8_weighsAll cX8_weighsAll 2 none :: zw_tb) RX8 := S
  have hx := S.1
  have hb := S.2.1
  have hK := hX.2.1
  have hl : lv_has ls 2 [(0, .ref (ad 0))] := hl
  unfold fX8_weighsAll at h
  have L2 : ∀ (n : Nat) (l1 : Int32) (w : zz_W) (ls : Array Slot) (H : Heap) (locs : List Loc), fX8_weighsAll_2 n l1 w = some w_ → lv_has ls 2 [(0, .ref (ad 0)), (1, .int l1)] → zE D tc lo ad zshM znnM fr w s.heap H locs → W p l e { frames := 3, cells := 0, slots := 0, locals := 70 } s m args below meth c H locs 0 0 (zZv D tc lo ad zshM znnM fr below args s w_) (F0 m 2 ls []) := by
    intro n2
    induction n2 with
    | zero => intro l1 w ls H locs h hl hE; rw [fX8_weighsAll_2] at h; cases h
    | succ n2 ih2 =>
      intro l1 w ls H locs h hl hE
      rw [fX8_weighsAll_2] at h
      refine lv_iload_n hx hb dX8_weighsAll_2 rfl (lv_at hl 1 rfl) ?_
      refine lv_aload_n hx hb dX8_weighsAll_3 rfl (lv_at hl 0 rfl) ?_
      refine zr_getA S hK hE zcl_X8 (zm_0 w) 0 (Nat.le_of_ble_eq_true rfl) (q := 1) rfl qf_X8_9 dX8_weighsAll_4 ?_
      refine lv_iconst (v := 1) hx hb dX8_weighsAll_7 (by decide) ?_
      obtain ⟨x15, ex15, h⟩ := zbdE h
      refine zr_iald S hK hE (zm_1 w) dX8_weighsAll_8 ex15 ?_
      refine lv_icmp_ge (tgt := 36) hx hb dX8_weighsAll_9 (by decide) (fun c16 => ?_) (fun c16 => ?_)
      · have h := zif c16 h
        exact zr_vret S hE hr hlk h dX8_weighsAll_36
      · have h := zif' c16 h
        refine lv_aload_n hx hb dX8_weighsAll_12 rfl (lv_at hl 0 rfl) ?_
        refine zr_getA S hK hE zcl_X8 (zm_0 w) 4 (Nat.le_of_ble_eq_true rfl) (q := 4) rfl qf_X8_19 dX8_weighsAll_13 ?_
        refine lv_iload_n hx hb dX8_weighsAll_16 rfl (lv_at hl 1 rfl) ?_
        refine lv_iconst (v := 1) hx hb dX8_weighsAll_17 (by decide) ?_
        obtain ⟨w17, ew17, h⟩ := zbdE h
        refine zr_iast S hK hE (zm_4 w) dX8_weighsAll_18 ew17 (fun H locs hE => ?_)
        refine lv_aload_n hx hb dX8_weighsAll_19 rfl (lv_at hl 0 rfl) ?_
        refine zr_getA S hK hE zcl_X8 (zm_0 w17) 5 (Nat.le_of_ble_eq_true rfl) (q := 5) rfl qf_X8_22 dX8_weighsAll_20 ?_
        refine lv_iload_n hx hb dX8_weighsAll_23 rfl (lv_at hl 1 rfl) ?_
        refine lv_aload_n hx hb dX8_weighsAll_24 rfl (lv_at hl 0 rfl) ?_
        refine lv_iload_n hx hb dX8_weighsAll_25 rfl (lv_at hl 1 rfl) ?_
        obtain ⟨x18, w19, ew19, h⟩ := zbd2E h
        refine zr_i (zr_runV (As := [.int l1]) S hX hE (kX8_hurtBy l D tc lo ad fr zq l1 w17 x18 w19 ew19) zyX8_hurtBy qm_X8_124 zcl_X8 rfl (zm_0 w17) ⟨rfl, rfl⟩ ⟨Nat.le_of_ble_eq_true rfl, Nat.le_of_ble_eq_true rfl⟩ rfl hl.1 rfl (Nat.le_of_ble_eq_true rfl) dX8_weighsAll_26 ⟨Nat.zero_le _, Nat.zero_le _⟩) hE (fun H locs hE => ?_)
        obtain ⟨w20, ew20, h⟩ := zbdE h
        refine zr_iast S hK hE (zm_5 w19) dX8_weighsAll_29 ew20 (fun H locs hE => ?_)
        obtain ⟨x21, ex21, h⟩ := zbdE h
        refine lv_iinc (v := x21) (lv' := [(1, .int x21), (0, .ref (ad 0))]) hx hb dX8_weighsAll_30 hl (k := 1) rfl (zinc (k := 1) (by decide) ex21) (by decide) rfl (fun ls hl => ?_)
        refine lv_goto (tgt := 2) hx hb dX8_weighsAll_33 (by decide) ?_
        exact ih2 x21 w20 ls _ _ h (lv_sub hl [1, 0] rfl) hE
  refine lv_iconst (v := 0) hx hb dX8_weighsAll_0 (by decide) ?_
  refine lv_istore_n (lv' := [(1, .int 0), (0, .ref (ad 0))]) hx hb dX8_weighsAll_1 rfl hl (by decide) rfl (fun ls hl => ?_)
  exact L2 zfuel 0 w ls _ _ h (lv_sub hl [1, 0] rfl) hE
set_option maxHeartbeats 4000000 in
set_option maxRecDepth 100000 in
theorem kX8_isWished (l : Launch) (D : va_G) (tc : Nat → ClassId) (lo : Nat) (ad : Nat → Nat) (fr : va_W) (zq : zz_Q) (a1 : Int32) (w : zz_W) (r : Int32) (w_ : zz_W) (h : fX8_isWished a1 w = some (r, w_)) : zMi l yX8_isWished cX8_isWished 2 (some .boolean) { frames := 4, cells := 0, slots := 0, locals := 99 } D tc lo ad zshM znnM fr zq [.ref (ad 0), .int a1] w r w_ := by
  refine zr_entry (by decide) (Nat.le_of_ble_eq_true rfl) fun p e s m args below meth c ls S hX hr hlk hE hl => ?_
  have S : CallFix p m c cX8_isWished 2 s args (Cond.code yX8_isWished cX8_isWished 2 (some .boolean) :: zw_tb) RX8 := S
  have hx := S.1
  have hb := S.2.1
  have hK := hX.2.1
  have hl : lv_has ls 2 [(0, .ref (ad 0)), (1, .int a1)] := hl
  unfold fX8_isWished at h
  refine lv_aload_n hx hb dX8_isWished_0 rfl (lv_at hl 0 rfl) ?_
  obtain ⟨w10001, ew10001, h⟩ := zbdE h
  refine zr_v (zr_runV (As := []) S hX hE (kX8_weighsAll l D tc lo ad fr zq w w10001 ew10001) zyX8_weighsAll qm_X8_187 zcl_X8 rfl (zm_0 w) ⟨rfl, rfl⟩ ⟨Nat.le_of_ble_eq_true rfl, Nat.le_of_ble_eq_true rfl⟩ rfl hl.1 rfl (Nat.le_of_ble_eq_true rfl) dX8_isWished_1 ⟨Nat.zero_le _, Nat.zero_le _⟩) hE (fun H locs hE => ?_)
  refine lv_aload_n hx hb dX8_isWished_4 rfl (lv_at hl 0 rfl) ?_
  refine zr_getA S hK hE zcl_X8 (zm_0 w10001) 0 (Nat.le_of_ble_eq_true rfl) (q := 1) rfl qf_X8_9 dX8_isWished_5 ?_
  refine lv_iconst (v := 1) hx hb dX8_isWished_8 (by decide) ?_
  obtain ⟨x10002, ex10002, h⟩ := zbdE h
  refine zr_iald S hK hE (zm_1 w10001) dX8_isWished_9 ex10002 ?_
  refine lv_if_le (tgt := 26) hx hb dX8_isWished_10 (by decide) (fun c10003 => ?_) (fun c10003 => ?_)
  · have h := zif c10003 h
    refine lv_iconst (v := 0) hx hb dX8_isWished_26 (by decide) ?_
    exact zr_zret S hE hr hlk (by decide) h dX8_isWished_27
  · have h := zif' c10003 h
    refine lv_aload_n hx hb dX8_isWished_13 rfl (lv_at hl 0 rfl) ?_
    refine lv_iload_n hx hb dX8_isWished_14 rfl (lv_at hl 1 rfl) ?_
    refine lv_iconst (v := 1) hx hb dX8_isWished_15 (by decide) ?_
    obtain ⟨x10004, w10005, ew10005, h⟩ := zbd2E h
    refine zr_i (zr_runV (As := [.int a1, .int 1]) S hX hE (kX8_leastOf l D tc lo ad fr zq a1 1 w10001 x10004 w10005 ew10005) zyX8_leastOf qm_X8_201 zcl_X8 rfl (zm_0 w10001) ⟨rfl, rfl⟩ ⟨Nat.le_of_ble_eq_true rfl, Nat.le_of_ble_eq_true rfl⟩ rfl hl.1 rfl (Nat.le_of_ble_eq_true rfl) dX8_isWished_16 ⟨Nat.zero_le _, Nat.zero_le _⟩) hE (fun H locs hE => ?_)
    refine lv_if_lt (tgt := 26) hx hb dX8_isWished_19 (by decide) (fun c10006 => ?_) (fun c10006 => ?_)
    · have h := zif c10006 h
      refine lv_iconst (v := 0) hx hb dX8_isWished_26 (by decide) ?_
      exact zr_zret S hE hr hlk (by decide) h dX8_isWished_27
    · have h := zif' c10006 h
      refine lv_iconst (v := 1) hx hb dX8_isWished_22 (by decide) ?_
      refine lv_goto (tgt := 27) hx hb dX8_isWished_23 (by decide) ?_
      exact zr_zret S hE hr hlk (by decide) h dX8_isWished_27
set_option maxHeartbeats 4000000 in
set_option maxRecDepth 100000 in
theorem kX8_item (l : Launch) (D : va_G) (tc : Nat → ClassId) (lo : Nat) (ad : Nat → Nat) (fr : va_W) (zq : zz_Q) (a1 : Int32) (a2 : Int32) (w : zz_W) (r : Int32) (w_ : zz_W) (h : fX8_item a1 a2 w = some (r, w_)) : zMi l yX8_item cX8_item 4 (some .int) { frames := 2, cells := 0, slots := 0, locals := 42 } D tc lo ad zshM znnM fr zq [.ref (ad 0), .int a1, .int a2] w r w_ := by
  refine zr_entry (by decide) (Nat.le_of_ble_eq_true rfl) fun p e s m args below meth c ls S hX hr hlk hE hl => ?_
  have S : CallFix p m c cX8_item 4 s args (Cond.code yX8_item cX8_item 4 (some .int) :: zw_tb) RX8 := S
  have hx := S.1
  have hb := S.2.1
  have hK := hX.2.1
  have hl : lv_has ls 4 [(0, .ref (ad 0)), (1, .int a1), (2, .int a2)] := hl
  unfold fX8_item at h
  refine lv_iload_n hx hb dX8_item_0 rfl (lv_at hl 1 rfl) ?_
  obtain ⟨x10001, w10002, ew10002, h⟩ := zbd2E h
  refine zr_i (zr_runS (As := [.int a1]) S hX hE (kX8_isSlot l D tc lo ad fr zq a1 w x10001 w10002 ew10002) zyX8_isSlot qm_X8_292 ⟨rfl, rfl⟩ ⟨Nat.le_of_ble_eq_true rfl, Nat.le_of_ble_eq_true rfl⟩ rfl hl.1 rfl (Nat.le_of_ble_eq_true rfl) dX8_item_1 ⟨Nat.zero_le _, Nat.zero_le _⟩) hE (fun H locs hE => ?_)
  refine lv_if_ne (tgt := 10) hx hb dX8_item_4 (by decide) (fun c10003 => ?_) (fun c10003 => ?_)
  · have h := zif' c10003 h
    refine lv_aload_n hx hb dX8_item_10 rfl (lv_at hl 0 rfl) ?_
    refine zr_getA S hK hE zcl_X8 (zm_0 w10002) 28 (Nat.le_of_ble_eq_true rfl) (q := 18) rfl qf_X8_63 dX8_item_11 ?_
    refine lv_iload_n hx hb dX8_item_14 rfl (lv_at hl 1 rfl) ?_
    obtain ⟨x10004, ex10004, h⟩ := zbdE h
    refine zr_iald S hK hE (zm_18 w10002) dX8_item_15 ex10004 ?_
    refine lv_if_ne (tgt := 22) hx hb dX8_item_16 (by decide) (fun c10005 => ?_) (fun c10005 => ?_)
    · have h := zif' c10005 h
      refine lv_aload_n hx hb dX8_item_22 rfl (lv_at hl 0 rfl) ?_
      refine zr_getA S hK hE zcl_X8 (zm_0 w10002) 28 (Nat.le_of_ble_eq_true rfl) (q := 18) rfl qf_X8_63 dX8_item_23 ?_
      refine lv_iload_n hx hb dX8_item_26 rfl (lv_at hl 1 rfl) ?_
      obtain ⟨x10006, ex10006, h⟩ := zbdE h
      refine zr_iald S hK hE (zm_18 w10002) dX8_item_27 ex10006 ?_
      refine lv_iconst (v := 2) hx hb dX8_item_28 (by decide) ?_
      refine lv_icmp_eq (tgt := 35) hx hb dX8_item_29 (by decide) (fun c10007 => ?_) (fun c10007 => ?_)
      · have h := zif c10007 h
        refine lv_iload_n hx hb dX8_item_35 rfl (lv_at hl 2 rfl) ?_
        refine lv_iconst (v := 0) hx hb dX8_item_36 (by decide) ?_
        refine lv_aload_n hx hb dX8_item_37 rfl (lv_at hl 0 rfl) ?_
        refine zr_getA S hK hE zcl_X8 (zm_0 w10002) 29 (Nat.le_of_ble_eq_true rfl) (q := 19) rfl qf_X8_66 dX8_item_38 ?_
        refine lv_iload_n hx hb dX8_item_41 rfl (lv_at hl 1 rfl) ?_
        obtain ⟨x10008, ex10008, h⟩ := zbdE h
        refine zr_iald S hK hE (zm_19 w10002) dX8_item_42 ex10008 ?_
        refine lv_iconst (v := 1) hx hb dX8_item_43 (by decide) ?_
        refine lv_isub hx hb dX8_item_44 ?_
        obtain ⟨x10009, w10010, ew10010, h⟩ := zbd2E h
        refine zr_i (zr_runS (As := [.int a2, .int 0, .int (x10008 - 1)]) S hX hE (kX8_in l D tc lo ad fr zq a2 0 (x10008 - 1) w10002 x10009 w10010 ew10010) zyX8_in qm_X8_81 ⟨rfl, rfl⟩ ⟨Nat.le_of_ble_eq_true rfl, Nat.le_of_ble_eq_true rfl⟩ rfl hl.1 rfl (Nat.le_of_ble_eq_true rfl) dX8_item_45 ⟨Nat.zero_le _, Nat.zero_le _⟩) hE (fun H locs hE => ?_)
        refine lv_if_ne (tgt := 55) hx hb dX8_item_48 (by decide) (fun c10011 => ?_) (fun c10011 => ?_)
        · have h := zif' c10011 h
          refine lv_aload_n hx hb dX8_item_55 rfl (lv_at hl 0 rfl) ?_
          refine zr_getA S hK hE zcl_X8 (zm_0 w10010) 31 (Nat.le_of_ble_eq_true rfl) (q := 21) rfl qf_X8_72 dX8_item_56 ?_
          refine lv_bipush (v := 24) hx hb dX8_item_59 (by decide) ?_
          refine lv_iload_n hx hb dX8_item_61 rfl (lv_at hl 1 rfl) ?_
          refine lv_imul hx hb dX8_item_62 ?_
          refine lv_iload_n hx hb dX8_item_63 rfl (lv_at hl 2 rfl) ?_
          refine lv_iadd hx hb dX8_item_64 ?_
          obtain ⟨x10012, ex10012, h⟩ := zbdE h
          refine zr_iald S hK hE (zm_21 w10010) dX8_item_65 ex10012 ?_
          refine lv_istore_n (lv' := [(3, .int x10012), (0, .ref (ad 0)), (1, .int a1), (2, .int a2)]) hx hb dX8_item_66 rfl hl (by decide) rfl (fun ls hl => ?_)
          refine lv_iload_n hx hb dX8_item_67 rfl (lv_at hl 0 rfl) ?_
          refine zr_ldc S qc_X8_176 dX8_item_68 ?_
          refine lv_icmp_ne (tgt := 78) hx hb dX8_item_70 (by decide) (fun c10013 => ?_) (fun c10013 => ?_)
          · have h := zif' c10013 h
            refine lv_iload_n hx hb dX8_item_78 rfl (lv_at hl 0 rfl) ?_
            exact zr_iret S hE hr hlk h dX8_item_79
          · have h := zif c10013 h
            refine zr_ldc S qc_X8_136 dX8_item_73 ?_
            refine lv_goto (tgt := 79) hx hb dX8_item_75 (by decide) ?_
            exact zr_iret S hE hr hlk h dX8_item_79
        · have h := zif c10011 h
          refine zr_ldcw S qc_X8_290 dX8_item_51 ?_
          exact zr_iret S hE hr hlk h dX8_item_54
      · have h := zif' c10007 h
        refine zr_ldc S qc_X8_136 dX8_item_32 ?_
        exact zr_iret S hE hr hlk h dX8_item_34
    · have h := zif c10005 h
      refine zr_ldc S qc_X8_200 dX8_item_19 ?_
      exact zr_iret S hE hr hlk h dX8_item_21
  · have h := zif c10003 h
    refine zr_ldc S qc_X8_97 dX8_item_7 ?_
    exact zr_iret S hE hr hlk h dX8_item_9
set_option maxHeartbeats 4000000 in
set_option maxRecDepth 100000 in
theorem kX8_keep (l : Launch) (D : va_G) (tc : Nat → ClassId) (lo : Nat) (ad : Nat → Nat) (fr : va_W) (zq : zz_Q) (w : zz_W) (r : Int32) (w_ : zz_W) (h : fX8_keep w = some (r, w_)) : zMi l yX8_keep cX8_keep 1 (some .int) { frames := 1, cells := 0, slots := 0, locals := 22 } D tc lo ad zshM znnM fr zq [.ref (ad 0)] w r w_ := by
  refine zr_entry (by decide) (Nat.le_of_ble_eq_true rfl) fun p e s m args below meth c ls S hX hr hlk hE hl => ?_
  have S : CallFix p m c cX8_keep 1 s args (Cond.code yX8_keep cX8_keep 1 (some .int) :: zw_tb) RX8 := S
  have hx := S.1
  have hb := S.2.1
  have hK := hX.2.1
  have hl : lv_has ls 1 [(0, .ref (ad 0))] := hl
  unfold fX8_keep at h
  refine lv_aload_n hx hb dX8_keep_0 rfl (lv_at hl 0 rfl) ?_
  refine zr_getA S hK hE zcl_X8 (zm_0 w) 0 (Nat.le_of_ble_eq_true rfl) (q := 1) rfl qf_X8_9 dX8_keep_1 ?_
  refine lv_aload_n hx hb dX8_keep_4 rfl (lv_at hl 0 rfl) ?_
  refine zr_getA S hK hE zcl_X8 (zm_0 w) 1 (Nat.le_of_ble_eq_true rfl) (q := 2) rfl qf_X8_13 dX8_keep_5 ?_
  obtain ⟨w10001, ew10001, h⟩ := zbdE h
  refine zr_v (zr_runS (As := [.ref (ad 1), .ref (ad 2)]) S hX hE (kX8_copyAll l D tc lo ad fr zq 1 2 w w10001 ew10001) zyX8_copyAll qm_X8_302 ⟨rfl, rfl⟩ ⟨Nat.le_of_ble_eq_true rfl, Nat.le_of_ble_eq_true rfl⟩ rfl hl.1 rfl (Nat.le_of_ble_eq_true rfl) dX8_keep_8 ⟨Nat.zero_le _, Nat.zero_le _⟩) hE (fun H locs hE => ?_)
  refine lv_aload_n hx hb dX8_keep_11 rfl (lv_at hl 0 rfl) ?_
  refine lv_iconst (v := 1) hx hb dX8_keep_12 (by decide) ?_
  obtain ⟨w10002, ew10002, h⟩ := zbdE h
  refine zr_putB S hK hE zcl_X8 (zm_0 w10001) 3 (Nat.le_of_ble_eq_true rfl) rfl (by decide) (by decide) rfl qf_X8_298 dX8_keep_13 ew10002 (fun H locs hE => ?_)
  refine lv_aload_n hx hb dX8_keep_16 rfl (lv_at hl 0 rfl) ?_
  refine zr_getA S hK hE zcl_X8 (zm_0 w10002) 0 (Nat.le_of_ble_eq_true rfl) (q := 1) rfl qf_X8_9 dX8_keep_17 ?_
  refine lv_iconst (v := 1) hx hb dX8_keep_20 (by decide) ?_
  obtain ⟨x10003, ex10003, h⟩ := zbdE h
  refine zr_iald S hK hE (zm_1 w10002) dX8_keep_21 ex10003 ?_
  exact zr_iret S hE hr hlk h dX8_keep_22
set_option maxHeartbeats 4000000 in
set_option maxRecDepth 100000 in
theorem kX8_worthOf (l : Launch) (D : va_G) (tc : Nat → ClassId) (lo : Nat) (ad : Nat → Nat) (fr : va_W) (zq : zz_Q) (a1 : Int32) (w : zz_W) (r : Int32) (w_ : zz_W) (h : fX8_worthOf a1 w = some (r, w_)) : zMi l yX8_worthOf cX8_worthOf 3 (some .int) { frames := 1, cells := 0, slots := 0, locals := 22 } D tc lo ad zshM znnM fr zq [.ref (ad 0), .int a1] w r w_ := by
  refine zr_entry (by decide) (Nat.le_of_ble_eq_true rfl) fun p e s m args below meth c ls S hX hr hlk hE hl => ?_
  have S : CallFix p m c cX8_worthOf 3 s args (Cond.code yX8_worthOf cX8_worthOf 3 (some .int) :: zw_tb) RX8 := S
  have hx := S.1
  have hb := S.2.1
  have hK := hX.2.1
  have hl : lv_has ls 3 [(0, .ref (ad 0)), (1, .int a1)] := hl
  unfold fX8_worthOf at h
  refine lv_aload_n hx hb dX8_worthOf_0 rfl (lv_at hl 0 rfl) ?_
  refine lv_iload_n hx hb dX8_worthOf_1 rfl (lv_at hl 1 rfl) ?_
  refine lv_iconst (v := 3) hx hb dX8_worthOf_2 (by decide) ?_
  obtain ⟨x10001, w10002, ew10002, h⟩ := zbd2E h
  refine zr_i (zr_runV (As := [.int a1, .int 3]) S hX hE (kX8_of l D tc lo ad fr zq a1 3 w x10001 w10002 ew10002) zyX8_of qm_X8_103 zcl_X8 rfl (zm_0 w) ⟨rfl, rfl⟩ ⟨Nat.le_of_ble_eq_true rfl, Nat.le_of_ble_eq_true rfl⟩ rfl hl.1 rfl (Nat.le_of_ble_eq_true rfl) dX8_worthOf_3 ⟨Nat.zero_le _, Nat.zero_le _⟩) hE (fun H locs hE => ?_)
  refine lv_istore_n (lv' := [(2, .int x10001), (0, .ref (ad 0)), (1, .int a1)]) hx hb dX8_worthOf_6 rfl hl (by decide) rfl (fun ls hl => ?_)
  refine lv_aload_n hx hb dX8_worthOf_7 rfl (lv_at hl 1 rfl) ?_
  refine lv_iload_n hx hb dX8_worthOf_8 rfl (lv_at hl 2 rfl) ?_
  refine lv_iconst (v := 0) hx hb dX8_worthOf_9 (by decide) ?_
  obtain ⟨x10003, w10004, ew10004, h⟩ := zbd2E h
  refine zr_i (zr_runV (As := [.int a1, .int 0]) S hX hE (kX8_of l D tc lo ad fr zq a1 0 w10002 x10003 w10004 ew10004) zyX8_of qm_X8_103 zcl_X8 rfl (zm_0 w10002) ⟨rfl, rfl⟩ ⟨Nat.le_of_ble_eq_true rfl, Nat.le_of_ble_eq_true rfl⟩ rfl hl.1 rfl (Nat.le_of_ble_eq_true rfl) dX8_worthOf_10 ⟨Nat.zero_le _, Nat.zero_le _⟩) hE (fun H locs hE => ?_)
  by_cases c10005 : x10003 = 1
  · refine lv_tableIn (off := 35) (tgt := 48) hx hb dX8_worthOf_13 (by rw [c10005]; decide) (by rw [c10005]; decide) (by rw [c10005]; decide) (by decide) ?_
    have h := zif c10005 h
    refine lv_iload_n hx hb dX8_worthOf_48 rfl (lv_at hl 0 rfl) ?_
    refine lv_bipush (v := 9) hx hb dX8_worthOf_49 (by decide) ?_
    refine lv_iadd hx hb dX8_worthOf_51 ?_
    exact zr_iret S hE hr hlk h dX8_worthOf_52
  have h := zif' c10005 h
  by_cases c10006 : x10003 = 2
  · refine lv_tableIn (off := 40) (tgt := 53) hx hb dX8_worthOf_13 (by rw [c10006]; decide) (by rw [c10006]; decide) (by rw [c10006]; decide) (by decide) ?_
    have h := zif c10006 h
    refine lv_bipush (v := 99) hx hb dX8_worthOf_53 (by decide) ?_
    refine lv_iload_n hx hb dX8_worthOf_55 rfl (lv_at hl 0 rfl) ?_
    refine lv_isub hx hb dX8_worthOf_56 ?_
    exact zr_iret S hE hr hlk h dX8_worthOf_57
  have h := zif' c10006 h
  by_cases c10007 : x10003 = 3
  · refine lv_tableIn (off := 45) (tgt := 58) hx hb dX8_worthOf_13 (by rw [c10007]; decide) (by rw [c10007]; decide) (by rw [c10007]; decide) (by decide) ?_
    have h := zif c10007 h
    refine lv_iconst (v := 2) hx hb dX8_worthOf_58 (by decide) ?_
    refine lv_iload_n hx hb dX8_worthOf_59 rfl (lv_at hl 0 rfl) ?_
    refine lv_bipush (v := 9) hx hb dX8_worthOf_60 (by decide) ?_
    refine lv_iadd hx hb dX8_worthOf_62 ?_
    refine lv_imul hx hb dX8_worthOf_63 ?_
    exact zr_iret S hE hr hlk h dX8_worthOf_64
  have h := zif' c10007 h
  by_cases c10008 : x10003 = 4
  · refine lv_tableIn (off := 52) (tgt := 65) hx hb dX8_worthOf_13 (by rw [c10008]; decide) (by rw [c10008]; decide) (by rw [c10008]; decide) (by decide) ?_
    have h := zif c10008 h
    refine lv_bipush (v := 94) hx hb dX8_worthOf_65 (by decide) ?_
    refine lv_iload_n hx hb dX8_worthOf_67 rfl (lv_at hl 0 rfl) ?_
    refine lv_isub hx hb dX8_worthOf_68 ?_
    exact zr_iret S hE hr hlk h dX8_worthOf_69
  have h := zif' c10008 h
  by_cases c10009 : x10003 = 5
  · refine lv_tableIn (off := 57) (tgt := 70) hx hb dX8_worthOf_13 (by rw [c10009]; decide) (by rw [c10009]; decide) (by rw [c10009]; decide) (by decide) ?_
    have h := zif c10009 h
    refine lv_iconst (v := 2) hx hb dX8_worthOf_70 (by decide) ?_
    exact zr_iret S hE hr hlk h dX8_worthOf_71
  have h := zif' c10009 h
  refine lv_tableOut (tgt := 72) hx hb dX8_worthOf_13 (by have tc10005 := lv_neT c10005 (a := 1) (by decide); have tc10006 := lv_neT c10006 (a := 2) (by decide); have tc10007 := lv_neT c10007 (a := 3) (by decide); have tc10008 := lv_neT c10008 (a := 4) (by decide); have tc10009 := lv_neT c10009 (a := 5) (by decide); omega) (by decide) ?_
  refine lv_iload_n hx hb dX8_worthOf_72 rfl (lv_at hl 0 rfl) ?_
  exact zr_iret S hE hr hlk h dX8_worthOf_73
set_option maxHeartbeats 4000000 in
set_option maxRecDepth 100000 in
theorem kX8_lay (l : Launch) (D : va_G) (tc : Nat → ClassId) (lo : Nat) (ad : Nat → Nat) (fr : va_W) (zq : zz_Q) (a1 : Int32) (a2 : Int32) (a3 : Int32) (w : zz_W) (r : Int32) (w_ : zz_W) (h : fX8_lay a1 a2 a3 w = some (r, w_)) : zMi l yX8_lay cX8_lay 6 (some .int) { frames := 2, cells := 0, slots := 0, locals := 44 } D tc lo ad zshM znnM fr zq [.ref (ad 0), .int a1, .int a2, .int a3] w r w_ := by
  refine zr_entry (by decide) (Nat.le_of_ble_eq_true rfl) fun p e s m args below meth c ls S hX hr hlk hE hl => ?_
  have S : CallFix p m c cX8_lay 6 s args (Cond.code yX8_lay cX8_lay 6 (some .int) :: zw_tb) RX8 := S
  have hx := S.1
  have hb := S.2.1
  have hK := hX.2.1
  have hl : lv_has ls 6 [(0, .ref (ad 0)), (1, .int a1), (2, .int a2), (3, .int a3)] := hl
  unfold fX8_lay at h
  have L134 : ∀ (n : Nat) (l1 : Int32) (l2 : Int32) (l3 : Int32) (l4 : Int32) (l5 : Int32) (w : zz_W) (ls : Array Slot) (H : Heap) (locs : List Loc), fX8_lay_134 a1 a2 a3 n l1 l2 l3 l4 l5 w = some (r, w_) → lv_has ls 6 [(0, .ref (ad 0)), (1, .int l1), (2, .int l2), (3, .int l3), (4, .int l4), (5, .int l5)] → zE D tc lo ad zshM znnM fr w s.heap H locs → W p l e { frames := 2, cells := 0, slots := 0, locals := 44 } s m args below meth c H locs 0 0 (zZi D tc lo ad zshM znnM fr below args s r w_) (F0 m 134 ls []) := by
    intro n134
    induction n134 with
    | zero => intro l1 l2 l3 l4 l5 w ls H locs h hl hE; rw [fX8_lay_134] at h; cases h
    | succ n134 ih134 =>
      intro l1 l2 l3 l4 l5 w ls H locs h hl hE
      rw [fX8_lay_134] at h
      refine lv_iload hx hb dX8_lay_134 (lv_at hl 5 rfl) ?_
      refine lv_bipush (v := 24) hx hb dX8_lay_136 (by decide) ?_
      refine lv_icmp_ge (tgt := 176) hx hb dX8_lay_138 (by decide) (fun c69 => ?_) (fun c69 => ?_)
      · have h := zif c69 h
        refine lv_iload hx hb dX8_lay_176 (lv_at hl 4 rfl) ?_
        exact zr_iret S hE hr hlk h dX8_lay_178
      · have h := zif' c69 h
        refine lv_iload_n hx hb dX8_lay_141 rfl (lv_at hl 2 rfl) ?_
        refine lv_iconst (v := 2) hx hb dX8_lay_142 (by decide) ?_
        refine lv_icmp_ne (tgt := 176) hx hb dX8_lay_143 (by decide) (fun c70 => ?_) (fun c70 => ?_)
        · have h := zif' c70 h
          refine lv_iload hx hb dX8_lay_176 (lv_at hl 4 rfl) ?_
          exact zr_iret S hE hr hlk h dX8_lay_178
        · have h := zif c70 h
          refine lv_aload_n hx hb dX8_lay_146 rfl (lv_at hl 0 rfl) ?_
          refine zr_getA S hK hE zcl_X8 (zm_0 w) 31 (Nat.le_of_ble_eq_true rfl) (q := 21) rfl qf_X8_72 dX8_lay_147 ?_
          refine lv_bipush (v := 24) hx hb dX8_lay_150 (by decide) ?_
          refine lv_iload_n hx hb dX8_lay_152 rfl (lv_at hl 1 rfl) ?_
          refine lv_imul hx hb dX8_lay_153 ?_
          refine lv_iload hx hb dX8_lay_154 (lv_at hl 5 rfl) ?_
          refine lv_iadd hx hb dX8_lay_156 ?_
          refine lv_aload_n hx hb dX8_lay_157 rfl (lv_at hl 0 rfl) ?_
          refine zr_getA S hK hE zcl_X8 (zm_0 w) 27 (Nat.le_of_ble_eq_true rfl) (q := 17) rfl qf_X8_60 dX8_lay_158 ?_
          refine lv_bipush (v := 24) hx hb dX8_lay_161 (by decide) ?_
          refine lv_iload_n hx hb dX8_lay_163 rfl (lv_at hl 3 rfl) ?_
          refine lv_imul hx hb dX8_lay_164 ?_
          refine lv_iload hx hb dX8_lay_165 (lv_at hl 5 rfl) ?_
          refine lv_iadd hx hb dX8_lay_167 ?_
          obtain ⟨x71, ex71, h⟩ := zbdE h
          refine zr_iald S hK hE (zm_17 w) dX8_lay_168 ex71 ?_
          obtain ⟨w72, ew72, h⟩ := zbdE h
          refine zr_iast S hK hE (zm_21 w) dX8_lay_169 ew72 (fun H locs hE => ?_)
          obtain ⟨x73, ex73, h⟩ := zbdE h
          refine lv_iinc (v := x73) (lv' := [(5, .int x73), (0, .ref (ad 0)), (1, .int l1), (2, .int l2), (3, .int l3), (4, .int l4)]) hx hb dX8_lay_170 hl (k := 5) rfl (zinc (k := 1) (by decide) ex73) (by decide) rfl (fun ls hl => ?_)
          refine lv_goto (tgt := 134) hx hb dX8_lay_173 (by decide) ?_
          exact ih134 l1 l2 l3 l4 x73 w72 ls _ _ h (lv_sub hl [1, 2, 3, 4, 5, 0] rfl) hE
  have J130 : ∀ (l1 : Int32) (l2 : Int32) (l3 : Int32) (l4 : Int32) (s1 : Int32) (s2 : Int32) (w : zz_W) (ls : Array Slot) (H : Heap) (locs : List Loc), fX8_lay_130 a1 a2 a3 l1 l2 l3 l4 s1 s2 w = some (r, w_) → lv_has ls 6 [(0, .ref (ad 0)), (1, .int l1), (2, .int l2), (3, .int l3), (4, .int l4)] → zE D tc lo ad zshM znnM fr w s.heap H locs → W p l e { frames := 2, cells := 0, slots := 0, locals := 44 } s m args below meth c H locs 0 0 (zZi D tc lo ad zshM znnM fr below args s r w_) (F0 m 130 ls [.int s2, .int s1, .ref (ad 20)]) := by
    intro l1 l2 l3 l4 s1 s2 w ls H locs h hl hE
    unfold fX8_lay_130 at h
    obtain ⟨w74, ew74, h⟩ := zbdE h
    refine zr_iast S hK hE (zm_20 w) dX8_lay_130 ew74 (fun H locs hE => ?_)
    refine lv_iconst (v := 0) hx hb dX8_lay_131 (by decide) ?_
    refine lv_istore (lv' := [(5, .int 0), (0, .ref (ad 0)), (1, .int l1), (2, .int l2), (3, .int l3), (4, .int l4)]) hx hb dX8_lay_132 hl (by decide) rfl (fun ls hl => ?_)
    exact L134 zfuel l1 l2 l3 l4 0 w74 ls _ _ h (lv_sub hl [1, 2, 3, 4, 5, 0] rfl) hE
  have J110 : ∀ (l1 : Int32) (l2 : Int32) (l3 : Int32) (l4 : Int32) (s1 : Int32) (s2 : Int32) (w : zz_W) (ls : Array Slot) (H : Heap) (locs : List Loc), fX8_lay_110 a1 a2 a3 l1 l2 l3 l4 s1 s2 w = some (r, w_) → lv_has ls 6 [(0, .ref (ad 0)), (1, .int l1), (2, .int l2), (3, .int l3), (4, .int l4)] → zE D tc lo ad zshM znnM fr w s.heap H locs → W p l e { frames := 2, cells := 0, slots := 0, locals := 44 } s m args below meth c H locs 0 0 (zZi D tc lo ad zshM znnM fr below args s r w_) (F0 m 110 ls [.int s2, .int s1, .ref (ad 19)]) := by
    intro l1 l2 l3 l4 s1 s2 w ls H locs h hl hE
    unfold fX8_lay_110 at h
    obtain ⟨w75, ew75, h⟩ := zbdE h
    refine zr_iast S hK hE (zm_19 w) dX8_lay_110 ew75 (fun H locs hE => ?_)
    refine lv_aload_n hx hb dX8_lay_111 rfl (lv_at hl 0 rfl) ?_
    refine zr_getA S hK hE zcl_X8 (zm_0 w75) 30 (Nat.le_of_ble_eq_true rfl) (q := 20) rfl qf_X8_69 dX8_lay_112 ?_
    refine lv_iload_n hx hb dX8_lay_115 rfl (lv_at hl 1 rfl) ?_
    refine lv_iload_n hx hb dX8_lay_116 rfl (lv_at hl 2 rfl) ?_
    refine lv_iconst (v := 1) hx hb dX8_lay_117 (by decide) ?_
    refine lv_icmp_ne (tgt := 129) hx hb dX8_lay_118 (by decide) (fun c76 => ?_) (fun c76 => ?_)
    · have h := zif' c76 h
      refine lv_iconst (v := 0) hx hb dX8_lay_129 (by decide) ?_
      exact J130 l1 l2 l3 l4 l1 0 w75 ls _ _ h (lv_sub hl [0, 1, 2, 3, 4] rfl) hE
    · have h := zif c76 h
      refine lv_aload_n hx hb dX8_lay_121 rfl (lv_at hl 0 rfl) ?_
      refine lv_iload_n hx hb dX8_lay_122 rfl (lv_at hl 3 rfl) ?_
      obtain ⟨x77, w78, ew78, h⟩ := zbd2E h
      refine zr_i (zr_runV (As := [.int l3]) S hX hE (kX8_worthOf l D tc lo ad fr zq l3 w75 x77 w78 ew78) zyX8_worthOf qm_X8_130 zcl_X8 rfl (zm_0 w75) ⟨rfl, rfl⟩ ⟨Nat.le_of_ble_eq_true rfl, Nat.le_of_ble_eq_true rfl⟩ rfl hl.1 rfl (Nat.le_of_ble_eq_true rfl) dX8_lay_123 ⟨Nat.zero_le _, Nat.zero_le _⟩) hE (fun H locs hE => ?_)
      refine lv_goto (tgt := 130) hx hb dX8_lay_126 (by decide) ?_
      exact J130 l1 l2 l3 l4 l1 x77 w78 ls _ _ h (lv_sub hl [0, 1, 2, 3, 4] rfl) hE
  have J61 : ∀ (l1 : Int32) (l2 : Int32) (l3 : Int32) (w : zz_W) (ls : Array Slot) (H : Heap) (locs : List Loc), fX8_lay_61 a1 a2 a3 l1 l2 l3 w = some (r, w_) → lv_has ls 6 [(0, .ref (ad 0)), (1, .int l1), (2, .int l2), (3, .int l3)] → zE D tc lo ad zshM znnM fr w s.heap H locs → W p l e { frames := 2, cells := 0, slots := 0, locals := 44 } s m args below meth c H locs 0 0 (zZi D tc lo ad zshM znnM fr below args s r w_) (F0 m 61 ls []) := by
    intro l1 l2 l3 w ls H locs h hl hE
    unfold fX8_lay_61 at h
    refine lv_aload_n hx hb dX8_lay_61 rfl (lv_at hl 0 rfl) ?_
    refine zr_getA S hK hE zcl_X8 (zm_0 w) 28 (Nat.le_of_ble_eq_true rfl) (q := 18) rfl qf_X8_63 dX8_lay_62 ?_
    refine lv_iload_n hx hb dX8_lay_65 rfl (lv_at hl 1 rfl) ?_
    obtain ⟨x79, ex79, h⟩ := zbdE h
    refine zr_iald S hK hE (zm_18 w) dX8_lay_66 ex79 ?_
    refine lv_istore (lv' := [(4, .int x79), (0, .ref (ad 0)), (1, .int l1), (2, .int l2), (3, .int l3)]) hx hb dX8_lay_67 hl (by decide) rfl (fun ls hl => ?_)
    refine lv_aload_n hx hb dX8_lay_69 rfl (lv_at hl 1 rfl) ?_
    refine zr_getA S hK hE zcl_X8 (zm_0 w) 28 (Nat.le_of_ble_eq_true rfl) (q := 18) rfl qf_X8_63 dX8_lay_70 ?_
    refine lv_iload_n hx hb dX8_lay_73 rfl (lv_at hl 2 rfl) ?_
    refine lv_iload_n hx hb dX8_lay_74 rfl (lv_at hl 3 rfl) ?_
    obtain ⟨w80, ew80, h⟩ := zbdE h
    refine zr_iast S hK hE (zm_18 w) dX8_lay_75 ew80 (fun H locs hE => ?_)
    refine lv_aload_n hx hb dX8_lay_76 rfl (lv_at hl 1 rfl) ?_
    refine zr_getA S hK hE zcl_X8 (zm_0 w80) 29 (Nat.le_of_ble_eq_true rfl) (q := 19) rfl qf_X8_66 dX8_lay_77 ?_
    refine lv_iload_n hx hb dX8_lay_80 rfl (lv_at hl 2 rfl) ?_
    refine lv_iload_n hx hb dX8_lay_81 rfl (lv_at hl 3 rfl) ?_
    refine lv_iconst (v := 1) hx hb dX8_lay_82 (by decide) ?_
    refine lv_icmp_ne (tgt := 95) hx hb dX8_lay_83 (by decide) (fun c81 => ?_) (fun c81 => ?_)
    · have h := zif' c81 h
      refine lv_iload_n hx hb dX8_lay_95 rfl (lv_at hl 3 rfl) ?_
      refine lv_iconst (v := 2) hx hb dX8_lay_96 (by decide) ?_
      refine lv_icmp_ne (tgt := 109) hx hb dX8_lay_97 (by decide) (fun c82 => ?_) (fun c82 => ?_)
      · have h := zif' c82 h
        refine lv_iload_n hx hb dX8_lay_109 rfl (lv_at hl 4 rfl) ?_
        exact J110 l1 l2 l3 x79 l1 l3 w80 ls _ _ h (lv_sub hl [1, 2, 3, 4, 0] rfl) hE
      · have h := zif c82 h
        refine lv_aload_n hx hb dX8_lay_100 rfl (lv_at hl 1 rfl) ?_
        refine zr_getA S hK hE zcl_X8 (zm_0 w80) 26 (Nat.le_of_ble_eq_true rfl) (q := 16) rfl qf_X8_57 dX8_lay_101 ?_
        refine lv_iload_n hx hb dX8_lay_104 rfl (lv_at hl 4 rfl) ?_
        obtain ⟨x83, ex83, h⟩ := zbdE h
        refine zr_iald S hK hE (zm_16 w80) dX8_lay_105 ex83 ?_
        refine lv_goto (tgt := 110) hx hb dX8_lay_106 (by decide) ?_
        exact J110 l1 l2 l3 x79 l1 x83 w80 ls _ _ h (lv_sub hl [1, 2, 3, 4, 0] rfl) hE
    · have h := zif c81 h
      refine lv_aload_n hx hb dX8_lay_86 rfl (lv_at hl 1 rfl) ?_
      refine lv_iload_n hx hb dX8_lay_87 rfl (lv_at hl 4 rfl) ?_
      refine lv_iconst (v := 0) hx hb dX8_lay_88 (by decide) ?_
      obtain ⟨x84, w85, ew85, h⟩ := zbd2E h
      refine zr_i (zr_runV (As := [.int l3, .int 0]) S hX hE (kX8_of l D tc lo ad fr zq l3 0 w80 x84 w85 ew85) zyX8_of qm_X8_103 zcl_X8 rfl (zm_0 w80) ⟨rfl, rfl⟩ ⟨Nat.le_of_ble_eq_true rfl, Nat.le_of_ble_eq_true rfl⟩ rfl hl.1 rfl (Nat.le_of_ble_eq_true rfl) dX8_lay_89 ⟨Nat.zero_le _, Nat.zero_le _⟩) hE (fun H locs hE => ?_)
      refine lv_goto (tgt := 110) hx hb dX8_lay_92 (by decide) ?_
      exact J110 l1 l2 l3 x79 l1 x84 w85 ls _ _ h (lv_sub hl [1, 2, 3, 4, 0] rfl) hE
  have J44 : ∀ (l1 : Int32) (l2 : Int32) (l3 : Int32) (w : zz_W) (ls : Array Slot) (H : Heap) (locs : List Loc), fX8_lay_44 a1 a2 a3 l1 l2 l3 w = some (r, w_) → lv_has ls 6 [(0, .ref (ad 0)), (1, .int l1), (2, .int l2), (3, .int l3)] → zE D tc lo ad zshM znnM fr w s.heap H locs → W p l e { frames := 2, cells := 0, slots := 0, locals := 44 } s m args below meth c H locs 0 0 (zZi D tc lo ad zshM znnM fr below args s r w_) (F0 m 44 ls []) := by
    intro l1 l2 l3 w ls H locs h hl hE
    unfold fX8_lay_44 at h
    refine lv_iload_n hx hb dX8_lay_44 rfl (lv_at hl 2 rfl) ?_
    refine lv_iconst (v := 2) hx hb dX8_lay_45 (by decide) ?_
    refine lv_icmp_ne (tgt := 61) hx hb dX8_lay_46 (by decide) (fun c86 => ?_) (fun c86 => ?_)
    · have h := zif' c86 h
      exact J61 l1 l2 l3 w ls _ _ h (lv_sub hl [0, 1, 2, 3] rfl) hE
    · have h := zif c86 h
      refine lv_aload_n hx hb dX8_lay_49 rfl (lv_at hl 0 rfl) ?_
      refine zr_getA S hK hE zcl_X8 (zm_0 w) 25 (Nat.le_of_ble_eq_true rfl) (q := 15) rfl qf_X8_54 dX8_lay_50 ?_
      refine lv_iload_n hx hb dX8_lay_53 rfl (lv_at hl 3 rfl) ?_
      obtain ⟨x87, ex87, h⟩ := zbdE h
      refine zr_iald S hK hE (zm_15 w) dX8_lay_54 ex87 ?_
      refine lv_if_ge (tgt := 61) hx hb dX8_lay_55 (by decide) (fun c88 => ?_) (fun c88 => ?_)
      · have h := zif c88 h
        exact J61 l1 l2 l3 w ls _ _ h (lv_sub hl [0, 1, 2, 3] rfl) hE
      · have h := zif' c88 h
        refine zr_ldc S qc_X8_200 dX8_lay_58 ?_
        exact zr_iret S hE hr hlk h dX8_lay_60
  have J29 : ∀ (l1 : Int32) (l2 : Int32) (l3 : Int32) (w : zz_W) (ls : Array Slot) (H : Heap) (locs : List Loc), fX8_lay_29 a1 a2 a3 l1 l2 l3 w = some (r, w_) → lv_has ls 6 [(0, .ref (ad 0)), (1, .int l1), (2, .int l2), (3, .int l3)] → zE D tc lo ad zshM znnM fr w s.heap H locs → W p l e { frames := 2, cells := 0, slots := 0, locals := 44 } s m args below meth c H locs 0 0 (zZi D tc lo ad zshM znnM fr below args s r w_) (F0 m 29 ls []) := by
    intro l1 l2 l3 w ls H locs h hl hE
    unfold fX8_lay_29 at h
    refine lv_iload_n hx hb dX8_lay_29 rfl (lv_at hl 2 rfl) ?_
    refine lv_iconst (v := 2) hx hb dX8_lay_30 (by decide) ?_
    refine lv_icmp_ne (tgt := 44) hx hb dX8_lay_31 (by decide) (fun c89 => ?_) (fun c89 => ?_)
    · have h := zif' c89 h
      exact J44 l1 l2 l3 w ls _ _ h (lv_sub hl [0, 1, 2, 3] rfl) hE
    · have h := zif c89 h
      refine lv_iload_n hx hb dX8_lay_34 rfl (lv_at hl 3 rfl) ?_
      obtain ⟨x90, w91, ew91, h⟩ := zbd2E h
      refine zr_i (zr_runS (As := [.int l3]) S hX hE (kX8_isSheet l D tc lo ad fr zq l3 w x90 w91 ew91) zyX8_isSheet qm_X8_197 ⟨rfl, rfl⟩ ⟨Nat.le_of_ble_eq_true rfl, Nat.le_of_ble_eq_true rfl⟩ rfl hl.1 rfl (Nat.le_of_ble_eq_true rfl) dX8_lay_35 ⟨Nat.zero_le _, Nat.zero_le _⟩) hE (fun H locs hE => ?_)
      refine lv_if_ne (tgt := 44) hx hb dX8_lay_38 (by decide) (fun c92 => ?_) (fun c92 => ?_)
      · have h := zif' c92 h
        exact J44 l1 l2 l3 w91 ls _ _ h (lv_sub hl [0, 1, 2, 3] rfl) hE
      · have h := zif c92 h
        refine zr_ldc S qc_X8_97 dX8_lay_41 ?_
        exact zr_iret S hE hr hlk h dX8_lay_43
  refine lv_iload_n hx hb dX8_lay_0 rfl (lv_at hl 1 rfl) ?_
  obtain ⟨x10001, w10002, ew10002, h⟩ := zbd2E h
  refine zr_i (zr_runS (As := [.int a1]) S hX hE (kX8_isSlot l D tc lo ad fr zq a1 w x10001 w10002 ew10002) zyX8_isSlot qm_X8_292 ⟨rfl, rfl⟩ ⟨Nat.le_of_ble_eq_true rfl, Nat.le_of_ble_eq_true rfl⟩ rfl hl.1 rfl (Nat.le_of_ble_eq_true rfl) dX8_lay_1 ⟨Nat.zero_le _, Nat.zero_le _⟩) hE (fun H locs hE => ?_)
  refine lv_if_eq (tgt := 41) hx hb dX8_lay_4 (by decide) (fun c10003 => ?_) (fun c10003 => ?_)
  · have h := zif c10003 h
    refine zr_ldc S qc_X8_97 dX8_lay_41 ?_
    exact zr_iret S hE hr hlk h dX8_lay_43
  · have h := zif' c10003 h
    refine lv_iload_n hx hb dX8_lay_7 rfl (lv_at hl 2 rfl) ?_
    refine lv_iconst (v := 0) hx hb dX8_lay_8 (by decide) ?_
    refine lv_iconst (v := 3) hx hb dX8_lay_9 (by decide) ?_
    obtain ⟨x10004, w10005, ew10005, h⟩ := zbd2E h
    refine zr_i (zr_runS (As := [.int a2, .int 0, .int 3]) S hX hE (kX8_in l D tc lo ad fr zq a2 0 3 w10002 x10004 w10005 ew10005) zyX8_in qm_X8_81 ⟨rfl, rfl⟩ ⟨Nat.le_of_ble_eq_true rfl, Nat.le_of_ble_eq_true rfl⟩ rfl hl.1 rfl (Nat.le_of_ble_eq_true rfl) dX8_lay_10 ⟨Nat.zero_le _, Nat.zero_le _⟩) hE (fun H locs hE => ?_)
    refine lv_if_eq (tgt := 41) hx hb dX8_lay_13 (by decide) (fun c10006 => ?_) (fun c10006 => ?_)
    · have h := zif c10006 h
      refine zr_ldc S qc_X8_97 dX8_lay_41 ?_
      exact zr_iret S hE hr hlk h dX8_lay_43
    · have h := zif' c10006 h
      refine lv_iload_n hx hb dX8_lay_16 rfl (lv_at hl 2 rfl) ?_
      refine lv_iconst (v := 1) hx hb dX8_lay_17 (by decide) ?_
      refine lv_icmp_ne (tgt := 29) hx hb dX8_lay_18 (by decide) (fun c10007 => ?_) (fun c10007 => ?_)
      · have h := zif' c10007 h
        exact J29 a1 a2 a3 w10005 ls _ _ h (lv_sub hl [0, 1, 2, 3] rfl) hE
      · have h := zif c10007 h
        refine lv_aload_n hx hb dX8_lay_21 rfl (lv_at hl 0 rfl) ?_
        refine lv_iload_n hx hb dX8_lay_22 rfl (lv_at hl 3 rfl) ?_
        obtain ⟨x10008, w10009, ew10009, h⟩ := zbd2E h
        refine zr_i (zr_runV (As := [.int a3]) S hX hE (kX8_isRun l D tc lo ad fr zq a3 w10005 x10008 w10009 ew10009) zyX8_isRun qm_X8_121 zcl_X8 rfl (zm_0 w10005) ⟨rfl, rfl⟩ ⟨Nat.le_of_ble_eq_true rfl, Nat.le_of_ble_eq_true rfl⟩ rfl hl.1 rfl (Nat.le_of_ble_eq_true rfl) dX8_lay_23 ⟨Nat.zero_le _, Nat.zero_le _⟩) hE (fun H locs hE => ?_)
        refine lv_if_eq (tgt := 41) hx hb dX8_lay_26 (by decide) (fun c10010 => ?_) (fun c10010 => ?_)
        · have h := zif c10010 h
          refine zr_ldc S qc_X8_97 dX8_lay_41 ?_
          exact zr_iret S hE hr hlk h dX8_lay_43
        · have h := zif' c10010 h
          exact J29 a1 a2 a3 w10009 ls _ _ h (lv_sub hl [0, 1, 2, 3] rfl) hE
set_option maxHeartbeats 4000000 in
set_option maxRecDepth 100000 in
theorem kX8_learnOf (l : Launch) (D : va_G) (tc : Nat → ClassId) (lo : Nat) (ad : Nat → Nat) (fr : va_W) (zq : zz_Q) (a1 : Int32) (a2 : Int32) (a3 : Int32) (a4 : Int32) (w : zz_W) (r : Int32) (w_ : zz_W) (h : fX8_learnOf a1 a2 a3 a4 w = some (r, w_)) : zMi l yX8_learnOf cX8_learnOf 9 (some .int) { frames := 4, cells := 0, slots := 0, locals := 99 } D tc lo ad zshM znnM fr zq [.ref (ad 0), .int a1, .int a2, .int a3, .int a4] w r w_ := by
  refine zr_entry (by decide) (Nat.le_of_ble_eq_true rfl) fun p e s m args below meth c ls S hX hr hlk hE hl => ?_
  have S : CallFix p m c cX8_learnOf 9 s args (Cond.code yX8_learnOf cX8_learnOf 9 (some .int) :: zw_tb) RX8 := S
  have hx := S.1
  have hb := S.2.1
  have hK := hX.2.1
  have hl : lv_has ls 9 [(0, .ref (ad 0)), (1, .int a1), (2, .int a2), (3, .int a3), (4, .int a4)] := hl
  unfold fX8_learnOf at h
  have L26 : ∀ (n : Nat) (l1 : Int32) (l2 : Int32) (l3 : Int32) (l4 : Int32) (l5 : Int64) (l7 : Int32) (w : zz_W) (ls : Array Slot) (H : Heap) (locs : List Loc), fX8_learnOf_26 a1 a2 a3 a4 n l1 l2 l3 l4 l5 l7 w = some (r, w_) → lv_has ls 9 [(0, .ref (ad 0)), (1, .int l1), (2, .int l2), (3, .int l3), (4, .int l4), (5, .long l5), (7, .int l7)] → zE D tc lo ad zshM znnM fr w s.heap H locs → W p l e { frames := 4, cells := 0, slots := 0, locals := 99 } s m args below meth c H locs 0 0 (zZi D tc lo ad zshM znnM fr below args s r w_) (F0 m 26 ls []) := by
    intro n26
    induction n26 with
    | zero => intro l1 l2 l3 l4 l5 l7 w ls H locs h hl hE; rw [fX8_learnOf_26] at h; cases h
    | succ n26 ih26 =>
      intro l1 l2 l3 l4 l5 l7 w ls H locs h hl hE
      rw [fX8_learnOf_26] at h
      have L35 : ∀ (n : Nat) (l1 : Int32) (l2 : Int32) (l3 : Int32) (l4 : Int32) (l5 : Int64) (l7 : Int32) (l8 : Int32) (w : zz_W) (ls : Array Slot) (H : Heap) (locs : List Loc), fX8_learnOf_35 a1 a2 a3 a4 (fX8_learnOf_26 a1 a2 a3 a4 n26) n l1 l2 l3 l4 l5 l7 l8 w = some (r, w_) → lv_has ls 9 [(0, .ref (ad 0)), (1, .int l1), (2, .int l2), (3, .int l3), (4, .int l4), (5, .long l5), (7, .int l7), (8, .int l8)] → zE D tc lo ad zshM znnM fr w s.heap H locs → W p l e { frames := 4, cells := 0, slots := 0, locals := 99 } s m args below meth c H locs 0 0 (zZi D tc lo ad zshM znnM fr below args s r w_) (F0 m 35 ls []) := by
        intro n35
        induction n35 with
        | zero => intro l1 l2 l3 l4 l5 l7 l8 w ls H locs h hl hE; rw [fX8_learnOf_35] at h; cases h
        | succ n35 ih35 =>
          intro l1 l2 l3 l4 l5 l7 l8 w ls H locs h hl hE
          rw [fX8_learnOf_35] at h
          have J80 : ∀ (l1 : Int32) (l2 : Int32) (l3 : Int32) (l4 : Int32) (l5 : Int64) (l7 : Int32) (l8 : Int32) (s1 : Int32) (s3 : Int32) (w : zz_W) (ls : Array Slot) (H : Heap) (locs : List Loc), fX8_learnOf_80 a1 a2 a3 a4 (fX8_learnOf_35 a1 a2 a3 a4 (fX8_learnOf_26 a1 a2 a3 a4 n26) n35) l1 l2 l3 l4 l5 l7 l8 s1 s3 w = some (r, w_) → lv_has ls 9 [(0, .ref (ad 0)), (1, .int l1), (2, .int l2), (3, .int l3), (4, .int l4), (5, .long l5), (7, .int l7), (8, .int l8)] → zE D tc lo ad zshM znnM fr w s.heap H locs → W p l e { frames := 4, cells := 0, slots := 0, locals := 99 } s m args below meth c H locs 0 0 (zZi D tc lo ad zshM znnM fr below args s r w_) (F0 m 80 ls [.int s3, .ref (ad 0), .int s1, .ref (ad 4)]) := by
            intro l1 l2 l3 l4 l5 l7 l8 s1 s3 w ls H locs h hl hE
            unfold fX8_learnOf_80 at h
            refine lv_iload_n hx hb dX8_learnOf_80 rfl (lv_at hl 1 rfl) ?_
            obtain ⟨x53, w54, ew54, h⟩ := zbd2E h
            refine zr_i (zr_runV (As := [.int s3, .int l1]) S hX hE (kX8_oddsToBeTold l D tc lo ad fr zq s3 l1 w x53 w54 ew54) zyX8_oddsToBeTold qm_X8_158 zcl_X8 rfl (zm_0 w) ⟨rfl, rfl⟩ ⟨Nat.le_of_ble_eq_true rfl, Nat.le_of_ble_eq_true rfl⟩ rfl hl.1 rfl (Nat.le_of_ble_eq_true rfl) dX8_learnOf_81 ⟨Nat.zero_le _, Nat.zero_le _⟩) hE (fun H locs hE => ?_)
            obtain ⟨w55, ew55, h⟩ := zbdE h
            refine zr_iast S hK hE (zm_4 w54) dX8_learnOf_84 ew55 (fun H locs hE => ?_)
            obtain ⟨x56, ex56, h⟩ := zbdE h
            refine lv_iinc (v := x56) (lv' := [(8, .int x56), (0, .ref (ad 0)), (1, .int l1), (2, .int l2), (3, .int l3), (4, .int l4), (5, .long l5), (7, .int l7)]) hx hb dX8_learnOf_85 hl (k := 7) rfl (zinc (k := 1) (by decide) ex56) (by decide) rfl (fun ls hl => ?_)
            refine lv_goto (tgt := 35) hx hb dX8_learnOf_88 (by decide) ?_
            exact ih35 l1 l2 l3 l4 l5 l7 x56 w55 ls _ _ h (lv_sub hl [1, 2, 3, 4, 5, 6, 7, 0] rfl) hE
          have J72 : ∀ (l1 : Int32) (l2 : Int32) (l3 : Int32) (l4 : Int32) (l5 : Int64) (l7 : Int32) (l8 : Int32) (s1 : Int32) (s3 : Int32) (s4 : Int32) (w : zz_W) (ls : Array Slot) (H : Heap) (locs : List Loc), fX8_learnOf_72 a1 a2 a3 a4 (fX8_learnOf_35 a1 a2 a3 a4 (fX8_learnOf_26 a1 a2 a3 a4 n26) n35) l1 l2 l3 l4 l5 l7 l8 s1 s3 s4 w = some (r, w_) → lv_has ls 9 [(0, .ref (ad 0)), (1, .int l1), (2, .int l2), (3, .int l3), (4, .int l4), (5, .long l5), (7, .int l7), (8, .int l8)] → zE D tc lo ad zshM znnM fr w s.heap H locs → W p l e { frames := 4, cells := 0, slots := 0, locals := 99 } s m args below meth c H locs 0 0 (zZi D tc lo ad zshM znnM fr below args s r w_) (F0 m 72 ls [.int s4, .int s3, .ref (ad 0), .int s1, .ref (ad 4)]) := by
            intro l1 l2 l3 l4 l5 l7 l8 s1 s3 s4 w ls H locs h hl hE
            unfold fX8_learnOf_72 at h
            refine lv_icmp_ne (tgt := 79) hx hb dX8_learnOf_72 (by decide) (fun c57 => ?_) (fun c57 => ?_)
            · have h := zif' c57 h
              refine lv_iconst (v := 0) hx hb dX8_learnOf_79 (by decide) ?_
              exact J80 l1 l2 l3 l4 l5 l7 l8 s1 0 w ls _ _ h (lv_sub hl [0, 1, 2, 3, 4, 5, 6, 7] rfl) hE
            · have h := zif c57 h
              refine lv_iconst (v := 1) hx hb dX8_learnOf_75 (by decide) ?_
              refine lv_goto (tgt := 80) hx hb dX8_learnOf_76 (by decide) ?_
              exact J80 l1 l2 l3 l4 l5 l7 l8 s1 1 w ls _ _ h (lv_sub hl [0, 1, 2, 3, 4, 5, 6, 7] rfl) hE
          refine lv_iload hx hb dX8_learnOf_35 (lv_at hl 7 rfl) ?_
          refine lv_aload_n hx hb dX8_learnOf_37 rfl (lv_at hl 0 rfl) ?_
          refine zr_getA S hK hE zcl_X8 (zm_0 w) 0 (Nat.le_of_ble_eq_true rfl) (q := 1) rfl qf_X8_9 dX8_learnOf_38 ?_
          refine lv_iconst (v := 1) hx hb dX8_learnOf_41 (by decide) ?_
          obtain ⟨x58, ex58, h⟩ := zbdE h
          refine zr_iald S hK hE (zm_1 w) dX8_learnOf_42 ex58 ?_
          refine lv_icmp_ge (tgt := 91) hx hb dX8_learnOf_43 (by decide) (fun c59 => ?_) (fun c59 => ?_)
          · have h := zif c59 h
            refine lv_lload hx hb dX8_learnOf_91 (lv_at hl 5 rfl) ?_
            refine lv_aload_n hx hb dX8_learnOf_93 rfl (lv_at hl 0 rfl) ?_
            refine lv_aload_n hx hb dX8_learnOf_94 rfl (lv_at hl 0 rfl) ?_
            refine lv_iload_n hx hb dX8_learnOf_95 rfl (lv_at hl 3 rfl) ?_
            refine lv_iload hx hb dX8_learnOf_96 (lv_at hl 4 rfl) ?_
            obtain ⟨x60, w61, ew61, h⟩ := zbd2E h
            refine zr_i (zr_runV (As := [.int l3, .int l4]) S hX hE (kX8_leastOf l D tc lo ad fr zq l3 l4 w x60 w61 ew61) zyX8_leastOf qm_X8_201 zcl_X8 rfl (zm_0 w) ⟨rfl, rfl⟩ ⟨Nat.le_of_ble_eq_true rfl, Nat.le_of_ble_eq_true rfl⟩ rfl hl.1 rfl (Nat.le_of_ble_eq_true rfl) dX8_learnOf_98 ⟨Nat.zero_le _, Nat.zero_le _⟩) hE (fun H locs hE => ?_)
            refine lv_iload hx hb dX8_learnOf_101 (lv_at hl 4 rfl) ?_
            obtain ⟨x62, w63, ew63, h⟩ := zbd2E h
            refine zr_l (zr_runV (As := [.int x60, .int l4]) S hX hE (kX8_lossAt l D tc lo ad fr zq x60 l4 w61 x62 w63 ew63) zyX8_lossAt qm_X8_190 zcl_X8 rfl (zm_0 w61) ⟨rfl, rfl⟩ ⟨Nat.le_of_ble_eq_true rfl, Nat.le_of_ble_eq_true rfl⟩ rfl hl.1 rfl (Nat.le_of_ble_eq_true rfl) dX8_learnOf_103 ⟨Nat.zero_le _, Nat.zero_le _⟩) hE (fun H locs hE => ?_)
            refine lv_lsub hx hb dX8_learnOf_106 ?_
            obtain ⟨x64, ex64, h⟩ := zbdE h
            refine zr_topl ex64 ?_
            refine lv_lstore (lv' := [(5, .long x64), (0, .ref (ad 0)), (1, .int l1), (2, .int l2), (3, .int l3), (4, .int l4), (7, .int l7), (8, .int l8)]) hx hb dX8_learnOf_107 hl (by decide) rfl (fun ls hl => ?_)
            obtain ⟨x65, ex65, h⟩ := zbdE h
            refine lv_iinc (v := x65) (lv' := [(7, .int x65), (5, .long x64), (0, .ref (ad 0)), (1, .int l1), (2, .int l2), (3, .int l3), (4, .int l4), (8, .int l8)]) hx hb dX8_learnOf_109 hl (k := 6) rfl (zinc (k := 1) (by decide) ex65) (by decide) rfl (fun ls hl => ?_)
            refine lv_goto (tgt := 26) hx hb dX8_learnOf_112 (by decide) ?_
            exact ih26 l1 l2 l3 l4 x64 x65 w63 ls _ _ h (lv_sub hl [2, 3, 4, 5, 6, 1, 0] rfl) hE
          · have h := zif' c59 h
            refine lv_aload_n hx hb dX8_learnOf_46 rfl (lv_at hl 0 rfl) ?_
            refine zr_getA S hK hE zcl_X8 (zm_0 w) 4 (Nat.le_of_ble_eq_true rfl) (q := 4) rfl qf_X8_19 dX8_learnOf_47 ?_
            refine lv_iload hx hb dX8_learnOf_50 (lv_at hl 7 rfl) ?_
            refine lv_aload_n hx hb dX8_learnOf_52 rfl (lv_at hl 0 rfl) ?_
            refine lv_aload_n hx hb dX8_learnOf_53 rfl (lv_at hl 0 rfl) ?_
            refine lv_iload hx hb dX8_learnOf_54 (lv_at hl 7 rfl) ?_
            refine lv_iload_n hx hb dX8_learnOf_56 rfl (lv_at hl 1 rfl) ?_
            refine lv_iload_n hx hb dX8_learnOf_57 rfl (lv_at hl 2 rfl) ?_
            obtain ⟨x66, w67, ew67, h⟩ := zbd2E h
            refine zr_i (zr_runV (As := [.int l8, .int l1, .int l2]) S hX hE (kX8_doesTell l D tc lo ad fr zq l8 l1 l2 w x66 w67 ew67) zyX8_doesTell qm_X8_143 zcl_X8 rfl (zm_0 w) ⟨rfl, rfl⟩ ⟨Nat.le_of_ble_eq_true rfl, Nat.le_of_ble_eq_true rfl⟩ rfl hl.1 rfl (Nat.le_of_ble_eq_true rfl) dX8_learnOf_58 ⟨Nat.zero_le _, Nat.zero_le _⟩) hE (fun H locs hE => ?_)
            refine lv_iload hx hb dX8_learnOf_61 (lv_at hl 6 rfl) ?_
            refine lv_iconst (v := 1) hx hb dX8_learnOf_63 (by decide) ?_
            refine lv_icmp_ne (tgt := 71) hx hb dX8_learnOf_64 (by decide) (fun c68 => ?_) (fun c68 => ?_)
            · have h := zif' c68 h
              refine lv_iconst (v := 0) hx hb dX8_learnOf_71 (by decide) ?_
              exact J72 l1 l2 l3 l4 l5 l7 l8 l8 x66 0 w67 ls _ _ h (lv_sub hl [0, 1, 2, 3, 4, 5, 6, 7] rfl) hE
            · have h := zif c68 h
              refine lv_iconst (v := 1) hx hb dX8_learnOf_67 (by decide) ?_
              refine lv_goto (tgt := 72) hx hb dX8_learnOf_68 (by decide) ?_
              exact J72 l1 l2 l3 l4 l5 l7 l8 l8 x66 1 w67 ls _ _ h (lv_sub hl [0, 1, 2, 3, 4, 5, 6, 7] rfl) hE
      refine lv_iload hx hb dX8_learnOf_26 (lv_at hl 6 rfl) ?_
      refine lv_iconst (v := 2) hx hb dX8_learnOf_28 (by decide) ?_
      refine lv_icmp_ge (tgt := 115) hx hb dX8_learnOf_29 (by decide) (fun c69 => ?_) (fun c69 => ?_)
      · have h := zif c69 h
        refine zr_ldc2 S qd_X8_174 dX8_learnOf_115 ?_
        refine lv_lload hx hb dX8_learnOf_118 (lv_at hl 5 rfl) ?_
        refine lv_lmul hx hb dX8_learnOf_120 ?_
        refine zr_ldc2 S qd_X8_205 dX8_learnOf_121 ?_
        refine lv_aload_n hx hb dX8_learnOf_124 rfl (lv_at hl 0 rfl) ?_
        refine lv_iconst (v := 4) hx hb dX8_learnOf_125 (by decide) ?_
        obtain ⟨x70, w71, ew71, h⟩ := zbd2E h
        refine zr_i (zr_runV (As := [.int 4]) S hX hE (kX8_sumOf l D tc lo ad fr zq 4 w x70 w71 ew71) zyX8_sumOf qm_X8_151 zcl_X8 rfl (zm_0 w) ⟨rfl, rfl⟩ ⟨Nat.le_of_ble_eq_true rfl, Nat.le_of_ble_eq_true rfl⟩ rfl hl.1 rfl (Nat.le_of_ble_eq_true rfl) dX8_learnOf_126 ⟨Nat.zero_le _, Nat.zero_le _⟩) hE (fun H locs hE => ?_)
        refine lv_i2l hx hb dX8_learnOf_129 rfl ?_
        refine lv_lmul hx hb dX8_learnOf_130 ?_
        obtain ⟨x72, ex72, h⟩ := zbdE h
        refine zr_ldiv hx hb dX8_learnOf_131 ex72 ?_
        refine lv_l2i hx hb dX8_learnOf_132 rfl ?_
        exact zr_iret S hE hr hlk h dX8_learnOf_133
      · have h := zif' c69 h
        refine lv_iconst (v := 0) hx hb dX8_learnOf_32 (by decide) ?_
        refine lv_istore (lv' := [(8, .int 0), (0, .ref (ad 0)), (1, .int l1), (2, .int l2), (3, .int l3), (4, .int l4), (5, .long l5), (7, .int l7)]) hx hb dX8_learnOf_33 hl (by decide) rfl (fun ls hl => ?_)
        exact L35 zfuel l1 l2 l3 l4 l5 l7 0 w ls _ _ h (lv_sub hl [1, 2, 3, 4, 5, 6, 7, 0] rfl) hE
  refine lv_aload_n hx hb dX8_learnOf_0 rfl (lv_at hl 0 rfl) ?_
  obtain ⟨w10001, ew10001, h⟩ := zbdE h
  refine zr_v (zr_runV (As := []) S hX hE (kX8_weighsAll l D tc lo ad fr zq w w10001 ew10001) zyX8_weighsAll qm_X8_187 zcl_X8 rfl (zm_0 w) ⟨rfl, rfl⟩ ⟨Nat.le_of_ble_eq_true rfl, Nat.le_of_ble_eq_true rfl⟩ rfl hl.1 rfl (Nat.le_of_ble_eq_true rfl) dX8_learnOf_1 ⟨Nat.zero_le _, Nat.zero_le _⟩) hE (fun H locs hE => ?_)
  refine zr_ldc2 S qd_X8_205 dX8_learnOf_4 ?_
  refine lv_aload_n hx hb dX8_learnOf_7 rfl (lv_at hl 0 rfl) ?_
  refine lv_aload_n hx hb dX8_learnOf_8 rfl (lv_at hl 0 rfl) ?_
  refine lv_iload_n hx hb dX8_learnOf_9 rfl (lv_at hl 3 rfl) ?_
  refine lv_iload hx hb dX8_learnOf_10 (lv_at hl 4 rfl) ?_
  obtain ⟨x10002, w10003, ew10003, h⟩ := zbd2E h
  refine zr_i (zr_runV (As := [.int a3, .int a4]) S hX hE (kX8_leastOf l D tc lo ad fr zq a3 a4 w10001 x10002 w10003 ew10003) zyX8_leastOf qm_X8_201 zcl_X8 rfl (zm_0 w10001) ⟨rfl, rfl⟩ ⟨Nat.le_of_ble_eq_true rfl, Nat.le_of_ble_eq_true rfl⟩ rfl hl.1 rfl (Nat.le_of_ble_eq_true rfl) dX8_learnOf_12 ⟨Nat.zero_le _, Nat.zero_le _⟩) hE (fun H locs hE => ?_)
  refine lv_iload hx hb dX8_learnOf_15 (lv_at hl 4 rfl) ?_
  obtain ⟨x10004, w10005, ew10005, h⟩ := zbd2E h
  refine zr_l (zr_runV (As := [.int x10002, .int a4]) S hX hE (kX8_lossAt l D tc lo ad fr zq x10002 a4 w10003 x10004 w10005 ew10005) zyX8_lossAt qm_X8_190 zcl_X8 rfl (zm_0 w10003) ⟨rfl, rfl⟩ ⟨Nat.le_of_ble_eq_true rfl, Nat.le_of_ble_eq_true rfl⟩ rfl hl.1 rfl (Nat.le_of_ble_eq_true rfl) dX8_learnOf_17 ⟨Nat.zero_le _, Nat.zero_le _⟩) hE (fun H locs hE => ?_)
  refine lv_lmul hx hb dX8_learnOf_20 ?_
  obtain ⟨x10006, ex10006, h⟩ := zbdE h
  refine zr_topl ex10006 ?_
  refine lv_lstore (lv' := [(5, .long x10006), (0, .ref (ad 0)), (1, .int a1), (2, .int a2), (3, .int a3), (4, .int a4)]) hx hb dX8_learnOf_21 hl (by decide) rfl (fun ls hl => ?_)
  refine lv_iconst (v := 0) hx hb dX8_learnOf_23 (by decide) ?_
  refine lv_istore (lv' := [(7, .int 0), (5, .long x10006), (0, .ref (ad 0)), (1, .int a1), (2, .int a2), (3, .int a3), (4, .int a4)]) hx hb dX8_learnOf_24 hl (by decide) rfl (fun ls hl => ?_)
  exact L26 zfuel a1 a2 a3 a4 x10006 0 w10005 ls _ _ h (lv_sub hl [2, 3, 4, 5, 6, 1, 0] rfl) hE
set_option maxHeartbeats 4000000 in
set_option maxRecDepth 100000 in
theorem kX8_learn (l : Launch) (D : va_G) (tc : Nat → ClassId) (lo : Nat) (ad : Nat → Nat) (fr : va_W) (zq : zz_Q) (a1 : Int32) (a2 : Int32) (a3 : Int32) (a4 : Int32) (w : zz_W) (r : Int32) (w_ : zz_W) (h : fX8_learn a1 a2 a3 a4 w = some (r, w_)) : zMi l yX8_learn cX8_learn 5 (some .int) { frames := 5, cells := 0, slots := 0, locals := 127 } D tc lo ad zshM znnM fr zq [.ref (ad 0), .int a1, .int a2, .int a3, .int a4] w r w_ := by
  refine zr_entry (by decide) (Nat.le_of_ble_eq_true rfl) fun p e s m args below meth c ls S hX hr hlk hE hl => ?_
  have S : CallFix p m c cX8_learn 5 s args (Cond.code yX8_learn cX8_learn 5 (some .int) :: zw_tb) RX8 := S
  have hx := S.1
  have hb := S.2.1
  have hK := hX.2.1
  have hl : lv_has ls 5 [(0, .ref (ad 0)), (1, .int a1), (2, .int a2), (3, .int a3), (4, .int a4)] := hl
  unfold fX8_learn at h
  refine lv_iload_n hx hb dX8_learn_0 rfl (lv_at hl 1 rfl) ?_
  refine lv_iload_n hx hb dX8_learn_1 rfl (lv_at hl 2 rfl) ?_
  obtain ⟨x10001, w10002, ew10002, h⟩ := zbd2E h
  refine zr_i (zr_runS (As := [.int a1, .int a2]) S hX hE (kX8_isTest l D tc lo ad fr zq a1 a2 w x10001 w10002 ew10002) zyX8_isTest qm_X8_140 ⟨rfl, rfl⟩ ⟨Nat.le_of_ble_eq_true rfl, Nat.le_of_ble_eq_true rfl⟩ rfl hl.1 rfl (Nat.le_of_ble_eq_true rfl) dX8_learn_2 ⟨Nat.zero_le _, Nat.zero_le _⟩) hE (fun H locs hE => ?_)
  refine lv_if_eq (tgt := 26) hx hb dX8_learn_5 (by decide) (fun c10003 => ?_) (fun c10003 => ?_)
  · have h := zif c10003 h
    refine zr_ldc S qc_X8_97 dX8_learn_26 ?_
    exact zr_iret S hE hr hlk h dX8_learn_28
  · have h := zif' c10003 h
    refine lv_iload_n hx hb dX8_learn_8 rfl (lv_at hl 3 rfl) ?_
    obtain ⟨x10004, w10005, ew10005, h⟩ := zbd2E h
    refine zr_i (zr_runS (As := [.int a3]) S hX hE (kX8_isSheet l D tc lo ad fr zq a3 w10002 x10004 w10005 ew10005) zyX8_isSheet qm_X8_197 ⟨rfl, rfl⟩ ⟨Nat.le_of_ble_eq_true rfl, Nat.le_of_ble_eq_true rfl⟩ rfl hl.1 rfl (Nat.le_of_ble_eq_true rfl) dX8_learn_9 ⟨Nat.zero_le _, Nat.zero_le _⟩) hE (fun H locs hE => ?_)
    refine lv_if_eq (tgt := 26) hx hb dX8_learn_12 (by decide) (fun c10006 => ?_) (fun c10006 => ?_)
    · have h := zif c10006 h
      refine zr_ldc S qc_X8_97 dX8_learn_26 ?_
      exact zr_iret S hE hr hlk h dX8_learn_28
    · have h := zif' c10006 h
      refine lv_iload hx hb dX8_learn_15 (lv_at hl 4 rfl) ?_
      refine lv_iconst (v := 1) hx hb dX8_learn_17 (by decide) ?_
      refine lv_bipush (v := 9) hx hb dX8_learn_18 (by decide) ?_
      obtain ⟨x10007, w10008, ew10008, h⟩ := zbd2E h
      refine zr_i (zr_runS (As := [.int a4, .int 1, .int 9]) S hX hE (kX8_in l D tc lo ad fr zq a4 1 9 w10005 x10007 w10008 ew10008) zyX8_in qm_X8_81 ⟨rfl, rfl⟩ ⟨Nat.le_of_ble_eq_true rfl, Nat.le_of_ble_eq_true rfl⟩ rfl hl.1 rfl (Nat.le_of_ble_eq_true rfl) dX8_learn_20 ⟨Nat.zero_le _, Nat.zero_le _⟩) hE (fun H locs hE => ?_)
      refine lv_if_ne (tgt := 29) hx hb dX8_learn_23 (by decide) (fun c10009 => ?_) (fun c10009 => ?_)
      · have h := zif' c10009 h
        refine lv_aload_n hx hb dX8_learn_29 rfl (lv_at hl 0 rfl) ?_
        refine zr_getA S hK hE zcl_X8 (zm_0 w10008) 25 (Nat.le_of_ble_eq_true rfl) (q := 15) rfl qf_X8_54 dX8_learn_30 ?_
        refine lv_iload_n hx hb dX8_learn_33 rfl (lv_at hl 3 rfl) ?_
        obtain ⟨x10010, ex10010, h⟩ := zbdE h
        refine zr_iald S hK hE (zm_15 w10008) dX8_learn_34 ex10010 ?_
        refine lv_if_ge (tgt := 41) hx hb dX8_learn_35 (by decide) (fun c10011 => ?_) (fun c10011 => ?_)
        · have h := zif c10011 h
          refine lv_aload_n hx hb dX8_learn_41 rfl (lv_at hl 0 rfl) ?_
          refine lv_iload_n hx hb dX8_learn_42 rfl (lv_at hl 3 rfl) ?_
          obtain ⟨x10012, w10013, ew10013, h⟩ := zbd2E h
          refine zr_i (zr_runV (As := [.int a3]) S hX hE (kX8_isWished l D tc lo ad fr zq a3 w10008 x10012 w10013 ew10013) zyX8_isWished qm_X8_207 zcl_X8 rfl (zm_0 w10008) ⟨rfl, rfl⟩ ⟨Nat.le_of_ble_eq_true rfl, Nat.le_of_ble_eq_true rfl⟩ rfl hl.1 rfl (Nat.le_of_ble_eq_true rfl) dX8_learn_43 ⟨Nat.zero_le _, Nat.zero_le _⟩) hE (fun H locs hE => ?_)
          refine lv_if_eq (tgt := 61) hx hb dX8_learn_46 (by decide) (fun c10014 => ?_) (fun c10014 => ?_)
          · have h := zif c10014 h
            refine zr_ldc S qc_X8_176 dX8_learn_61 ?_
            exact zr_iret S hE hr hlk h dX8_learn_63
          · have h := zif' c10014 h
            refine lv_aload_n hx hb dX8_learn_49 rfl (lv_at hl 0 rfl) ?_
            refine lv_iload_n hx hb dX8_learn_50 rfl (lv_at hl 1 rfl) ?_
            refine lv_iload_n hx hb dX8_learn_51 rfl (lv_at hl 2 rfl) ?_
            refine lv_iload_n hx hb dX8_learn_52 rfl (lv_at hl 3 rfl) ?_
            refine lv_iload hx hb dX8_learn_53 (lv_at hl 4 rfl) ?_
            obtain ⟨x10015, w10016, ew10016, h⟩ := zbd2E h
            refine zr_i (zr_runV (As := [.int a1, .int a2, .int a3, .int a4]) S hX hE (kX8_learnOf l D tc lo ad fr zq a1 a2 a3 a4 w10013 x10015 w10016 ew10016) zyX8_learnOf qm_X8_210 zcl_X8 rfl (zm_0 w10013) ⟨rfl, rfl⟩ ⟨Nat.le_of_ble_eq_true rfl, Nat.le_of_ble_eq_true rfl⟩ rfl hl.1 rfl (Nat.le_of_ble_eq_true rfl) dX8_learn_55 ⟨Nat.zero_le _, Nat.zero_le _⟩) hE (fun H locs hE => ?_)
            refine lv_goto (tgt := 63) hx hb dX8_learn_58 (by decide) ?_
            exact zr_iret S hE hr hlk h dX8_learn_63
        · have h := zif' c10011 h
          refine zr_ldc S qc_X8_200 dX8_learn_38 ?_
          exact zr_iret S hE hr hlk h dX8_learn_40
      · have h := zif c10009 h
        refine zr_ldc S qc_X8_97 dX8_learn_26 ?_
        exact zr_iret S hE hr hlk h dX8_learn_28
set_option maxHeartbeats 4000000 in
set_option maxRecDepth 100000 in
theorem kX8_manyPassed (l : Launch) (D : va_G) (tc : Nat → ClassId) (lo : Nat) (ad : Nat → Nat) (fr : va_W) (zq : zz_Q) (a1 : Int32) (w : zz_W) (r : Int32) (w_ : zz_W) (h : fX8_manyPassed a1 w = some (r, w_)) : zMi l yX8_manyPassed cX8_manyPassed 4 (some .int) { frames := 2, cells := 0, slots := 0, locals := 47 } D tc lo ad zshM znnM fr zq [.ref (ad 0), .int a1] w r w_ := by
  refine zr_entry (by decide) (Nat.le_of_ble_eq_true rfl) fun p e s m args below meth c ls S hX hr hlk hE hl => ?_
  have S : CallFix p m c cX8_manyPassed 4 s args (Cond.code yX8_manyPassed cX8_manyPassed 4 (some .int) :: zw_tb) RX8 := S
  have hx := S.1
  have hb := S.2.1
  have hK := hX.2.1
  have hl : lv_has ls 4 [(0, .ref (ad 0)), (1, .int a1)] := hl
  unfold fX8_manyPassed at h
  have L4 : ∀ (n : Nat) (l1 : Int32) (l2 : Int32) (l3 : Int32) (w : zz_W) (ls : Array Slot) (H : Heap) (locs : List Loc), fX8_manyPassed_4 a1 n l1 l2 l3 w = some (r, w_) → lv_has ls 4 [(0, .ref (ad 0)), (1, .int l1), (2, .int l2), (3, .int l3)] → zE D tc lo ad zshM znnM fr w s.heap H locs → W p l e { frames := 2, cells := 0, slots := 0, locals := 47 } s m args below meth c H locs 0 0 (zZi D tc lo ad zshM znnM fr below args s r w_) (F0 m 4 ls []) := by
    intro n4
    induction n4 with
    | zero => intro l1 l2 l3 w ls H locs h hl hE; rw [fX8_manyPassed_4] at h; cases h
    | succ n4 ih4 =>
      intro l1 l2 l3 w ls H locs h hl hE
      rw [fX8_manyPassed_4] at h
      refine lv_iload_n hx hb dX8_manyPassed_4 rfl (lv_at hl 3 rfl) ?_
      refine lv_bipush (v := 36) hx hb dX8_manyPassed_5 (by decide) ?_
      refine lv_icmp_ge (tgt := 33) hx hb dX8_manyPassed_7 (by decide) (fun c17 => ?_) (fun c17 => ?_)
      · have h := zif c17 h
        refine lv_iload_n hx hb dX8_manyPassed_33 rfl (lv_at hl 2 rfl) ?_
        exact zr_iret S hE hr hlk h dX8_manyPassed_34
      · have h := zif' c17 h
        refine lv_iload_n hx hb dX8_manyPassed_10 rfl (lv_at hl 2 rfl) ?_
        refine lv_aload_n hx hb dX8_manyPassed_11 rfl (lv_at hl 0 rfl) ?_
        refine lv_iload_n hx hb dX8_manyPassed_12 rfl (lv_at hl 1 rfl) ?_
        refine lv_iload_n hx hb dX8_manyPassed_13 rfl (lv_at hl 3 rfl) ?_
        obtain ⟨x18, w19, ew19, h⟩ := zbd2E h
        refine zr_i (zr_runV (As := [.int l1, .int l3]) S hX hE (kX8_doesPass l D tc lo ad fr zq l1 l3 w x18 w19 ew19) zyX8_doesPass qm_X8_111 zcl_X8 rfl (zm_0 w) ⟨rfl, rfl⟩ ⟨Nat.le_of_ble_eq_true rfl, Nat.le_of_ble_eq_true rfl⟩ rfl hl.1 rfl (Nat.le_of_ble_eq_true rfl) dX8_manyPassed_14 ⟨Nat.zero_le _, Nat.zero_le _⟩) hE (fun H locs hE => ?_)
        refine lv_if_eq (tgt := 24) hx hb dX8_manyPassed_17 (by decide) (fun c20 => ?_) (fun c20 => ?_)
        · have h := zif c20 h
          refine lv_iconst (v := 0) hx hb dX8_manyPassed_24 (by decide) ?_
          refine lv_iadd hx hb dX8_manyPassed_25 ?_
          obtain ⟨x21, ex21, h⟩ := zbdE h
          refine zr_topi ex21 ?_
          refine lv_istore_n (lv' := [(2, .int x21), (0, .ref (ad 0)), (1, .int l1), (3, .int l3)]) hx hb dX8_manyPassed_26 rfl hl (by decide) rfl (fun ls hl => ?_)
          obtain ⟨x22, ex22, h⟩ := zbdE h
          refine lv_iinc (v := x22) (lv' := [(3, .int x22), (2, .int x21), (0, .ref (ad 0)), (1, .int l1)]) hx hb dX8_manyPassed_27 hl (k := 3) rfl (zinc (k := 1) (by decide) ex22) (by decide) rfl (fun ls hl => ?_)
          refine lv_goto (tgt := 4) hx hb dX8_manyPassed_30 (by decide) ?_
          exact ih4 l1 x21 x22 w19 ls _ _ h (lv_sub hl [2, 3, 1, 0] rfl) hE
        · have h := zif' c20 h
          refine lv_iconst (v := 1) hx hb dX8_manyPassed_20 (by decide) ?_
          refine lv_goto (tgt := 25) hx hb dX8_manyPassed_21 (by decide) ?_
          refine lv_iadd hx hb dX8_manyPassed_25 ?_
          obtain ⟨x23, ex23, h⟩ := zbdE h
          refine zr_topi ex23 ?_
          refine lv_istore_n (lv' := [(2, .int x23), (0, .ref (ad 0)), (1, .int l1), (3, .int l3)]) hx hb dX8_manyPassed_26 rfl hl (by decide) rfl (fun ls hl => ?_)
          obtain ⟨x24, ex24, h⟩ := zbdE h
          refine lv_iinc (v := x24) (lv' := [(3, .int x24), (2, .int x23), (0, .ref (ad 0)), (1, .int l1)]) hx hb dX8_manyPassed_27 hl (k := 3) rfl (zinc (k := 1) (by decide) ex24) (by decide) rfl (fun ls hl => ?_)
          refine lv_goto (tgt := 4) hx hb dX8_manyPassed_30 (by decide) ?_
          exact ih4 l1 x23 x24 w19 ls _ _ h (lv_sub hl [2, 3, 1, 0] rfl) hE
  refine lv_iconst (v := 0) hx hb dX8_manyPassed_0 (by decide) ?_
  refine lv_istore_n (lv' := [(2, .int 0), (0, .ref (ad 0)), (1, .int a1)]) hx hb dX8_manyPassed_1 rfl hl (by decide) rfl (fun ls hl => ?_)
  refine lv_iconst (v := 0) hx hb dX8_manyPassed_2 (by decide) ?_
  refine lv_istore_n (lv' := [(3, .int 0), (2, .int 0), (0, .ref (ad 0)), (1, .int a1)]) hx hb dX8_manyPassed_3 rfl hl (by decide) rfl (fun ls hl => ?_)
  exact L4 zfuel a1 0 0 w ls _ _ h (lv_sub hl [2, 3, 1, 0] rfl) hE
set_option maxHeartbeats 4000000 in
set_option maxRecDepth 100000 in
theorem kX8_mark (l : Launch) (D : va_G) (tc : Nat → ClassId) (lo : Nat) (ad : Nat → Nat) (fr : va_W) (zq : zz_Q) (a1 : Int32) (a2 : Int32) (a3 : Int32) (w : zz_W) (r : Int32) (w_ : zz_W) (h : fX8_mark a1 a2 a3 w = some (r, w_)) : zMi l yX8_mark cX8_mark 4 (some .int) { frames := 2, cells := 0, slots := 0, locals := 42 } D tc lo ad zshM znnM fr zq [.ref (ad 0), .int a1, .int a2, .int a3] w r w_ := by
  refine zr_entry (by decide) (Nat.le_of_ble_eq_true rfl) fun p e s m args below meth c ls S hX hr hlk hE hl => ?_
  have S : CallFix p m c cX8_mark 4 s args (Cond.code yX8_mark cX8_mark 4 (some .int) :: zw_tb) RX8 := S
  have hx := S.1
  have hb := S.2.1
  have hK := hX.2.1
  have hl : lv_has ls 4 [(0, .ref (ad 0)), (1, .int a1), (2, .int a2), (3, .int a3)] := hl
  unfold fX8_mark at h
  have J116 : ∀ (s1 : Int32) (s2 : Int32) (w : zz_W) (ls : Array Slot) (H : Heap) (locs : List Loc), fX8_mark_116 a1 a2 a3 s1 s2 w = some (r, w_) → lv_has ls 4 [] → zE D tc lo ad zshM znnM fr w s.heap H locs → W p l e { frames := 2, cells := 0, slots := 0, locals := 42 } s m args below meth c H locs 0 0 (zZi D tc lo ad zshM znnM fr below args s r w_) (F0 m 116 ls [.int s2, .int s1, .ref (ad 17)]) := by
    intro s1 s2 w ls H locs h hl hE
    unfold fX8_mark_116 at h
    obtain ⟨w43, ew43, h⟩ := zbdE h
    refine zr_iast S hK hE (zm_17 w) dX8_mark_116 ew43 (fun H locs hE => ?_)
    refine lv_iconst (v := 1) hx hb dX8_mark_117 (by decide) ?_
    exact zr_iret S hE hr hlk h dX8_mark_118
  have J91 : ∀ (l1 : Int32) (l2 : Int32) (l3 : Int32) (w : zz_W) (ls : Array Slot) (H : Heap) (locs : List Loc), fX8_mark_91 a1 a2 a3 l1 l2 l3 w = some (r, w_) → lv_has ls 4 [(0, .ref (ad 0)), (1, .int l1), (2, .int l2), (3, .int l3)] → zE D tc lo ad zshM znnM fr w s.heap H locs → W p l e { frames := 2, cells := 0, slots := 0, locals := 42 } s m args below meth c H locs 0 0 (zZi D tc lo ad zshM znnM fr below args s r w_) (F0 m 91 ls []) := by
    intro l1 l2 l3 w ls H locs h hl hE
    unfold fX8_mark_91 at h
    refine lv_aload_n hx hb dX8_mark_91 rfl (lv_at hl 0 rfl) ?_
    refine zr_getA S hK hE zcl_X8 (zm_0 w) 27 (Nat.le_of_ble_eq_true rfl) (q := 17) rfl qf_X8_60 dX8_mark_92 ?_
    refine lv_bipush (v := 24) hx hb dX8_mark_95 (by decide) ?_
    refine lv_iload_n hx hb dX8_mark_97 rfl (lv_at hl 1 rfl) ?_
    refine lv_imul hx hb dX8_mark_98 ?_
    refine lv_iload_n hx hb dX8_mark_99 rfl (lv_at hl 2 rfl) ?_
    refine lv_iadd hx hb dX8_mark_100 ?_
    refine lv_aload_n hx hb dX8_mark_101 rfl (lv_at hl 0 rfl) ?_
    refine zr_getA S hK hE zcl_X8 (zm_0 w) 25 (Nat.le_of_ble_eq_true rfl) (q := 15) rfl qf_X8_54 dX8_mark_102 ?_
    refine lv_iload_n hx hb dX8_mark_105 rfl (lv_at hl 1 rfl) ?_
    obtain ⟨x44, ex44, h⟩ := zbdE h
    refine zr_iald S hK hE (zm_15 w) dX8_mark_106 ex44 ?_
    refine lv_if_ne (tgt := 115) hx hb dX8_mark_107 (by decide) (fun c45 => ?_) (fun c45 => ?_)
    · have h := zif' c45 h
      refine lv_iload_n hx hb dX8_mark_115 rfl (lv_at hl 3 rfl) ?_
      exact J116 ((24 * l1) + l2) l3 w ls _ _ h (lv_sub hl [] rfl) hE
    · have h := zif c45 h
      refine lv_iload_n hx hb dX8_mark_110 rfl (lv_at hl 3 rfl) ?_
      refine lv_i2s hx hb dX8_mark_111 rfl ?_
      refine lv_goto (tgt := 116) hx hb dX8_mark_112 (by decide) ?_
      exact J116 ((24 * l1) + l2) ((Int32.toInt16 l3).toInt32) w ls _ _ h (lv_sub hl [] rfl) hE
  have J60 : ∀ (l1 : Int32) (l2 : Int32) (l3 : Int32) (w : zz_W) (ls : Array Slot) (H : Heap) (locs : List Loc), fX8_mark_60 a1 a2 a3 l1 l2 l3 w = some (r, w_) → lv_has ls 4 [(0, .ref (ad 0)), (1, .int l1), (2, .int l2), (3, .int l3)] → zE D tc lo ad zshM znnM fr w s.heap H locs → W p l e { frames := 2, cells := 0, slots := 0, locals := 42 } s m args below meth c H locs 0 0 (zZi D tc lo ad zshM znnM fr below args s r w_) (F0 m 60 ls []) := by
    intro l1 l2 l3 w ls H locs h hl hE
    unfold fX8_mark_60 at h
    refine lv_aload_n hx hb dX8_mark_60 rfl (lv_at hl 0 rfl) ?_
    refine zr_getA S hK hE zcl_X8 (zm_0 w) 25 (Nat.le_of_ble_eq_true rfl) (q := 15) rfl qf_X8_54 dX8_mark_61 ?_
    refine lv_iload_n hx hb dX8_mark_64 rfl (lv_at hl 1 rfl) ?_
    obtain ⟨x46, ex46, h⟩ := zbdE h
    refine zr_iald S hK hE (zm_15 w) dX8_mark_65 ex46 ?_
    refine lv_iconst (v := 1) hx hb dX8_mark_66 (by decide) ?_
    refine lv_icmp_ne (tgt := 91) hx hb dX8_mark_67 (by decide) (fun c47 => ?_) (fun c47 => ?_)
    · have h := zif' c47 h
      exact J91 l1 l2 l3 w ls _ _ h (lv_sub hl [0, 1, 2, 3] rfl) hE
    · have h := zif c47 h
      refine lv_iload_n hx hb dX8_mark_70 rfl (lv_at hl 3 rfl) ?_
      refine zr_ldc S qc_X8_176 dX8_mark_71 ?_
      refine lv_icmp_eq (tgt := 91) hx hb dX8_mark_73 (by decide) (fun c48 => ?_) (fun c48 => ?_)
      · have h := zif c48 h
        exact J91 l1 l2 l3 w ls _ _ h (lv_sub hl [0, 1, 2, 3] rfl) hE
      · have h := zif' c48 h
        refine lv_iload_n hx hb dX8_mark_76 rfl (lv_at hl 3 rfl) ?_
        refine zr_ldcw S qc_X8_291 dX8_mark_77 ?_
        refine zr_ldc S qc_X8_204 dX8_mark_80 ?_
        obtain ⟨x49, w50, ew50, h⟩ := zbd2E h
        refine zr_i (zr_runS (As := [.int l3, .int (-99999), .int 99999]) S hX hE (kX8_in l D tc lo ad fr zq l3 (-99999) 99999 w x49 w50 ew50) zyX8_in qm_X8_81 ⟨rfl, rfl⟩ ⟨Nat.le_of_ble_eq_true rfl, Nat.le_of_ble_eq_true rfl⟩ rfl hl.1 rfl (Nat.le_of_ble_eq_true rfl) dX8_mark_82 ⟨Nat.zero_le _, Nat.zero_le _⟩) hE (fun H locs hE => ?_)
        refine lv_if_ne (tgt := 91) hx hb dX8_mark_85 (by decide) (fun c51 => ?_) (fun c51 => ?_)
        · have h := zif' c51 h
          exact J91 l1 l2 l3 w50 ls _ _ h (lv_sub hl [0, 1, 2, 3] rfl) hE
        · have h := zif c51 h
          refine zr_ldc S qc_X8_97 dX8_mark_88 ?_
          exact zr_iret S hE hr hlk h dX8_mark_90
  refine lv_iload_n hx hb dX8_mark_0 rfl (lv_at hl 1 rfl) ?_
  obtain ⟨x10001, w10002, ew10002, h⟩ := zbd2E h
  refine zr_i (zr_runS (As := [.int a1]) S hX hE (kX8_isSheet l D tc lo ad fr zq a1 w x10001 w10002 ew10002) zyX8_isSheet qm_X8_197 ⟨rfl, rfl⟩ ⟨Nat.le_of_ble_eq_true rfl, Nat.le_of_ble_eq_true rfl⟩ rfl hl.1 rfl (Nat.le_of_ble_eq_true rfl) dX8_mark_1 ⟨Nat.zero_le _, Nat.zero_le _⟩) hE (fun H locs hE => ?_)
  refine lv_if_ne (tgt := 10) hx hb dX8_mark_4 (by decide) (fun c10003 => ?_) (fun c10003 => ?_)
  · have h := zif' c10003 h
    refine lv_aload_n hx hb dX8_mark_10 rfl (lv_at hl 0 rfl) ?_
    refine zr_getA S hK hE zcl_X8 (zm_0 w10002) 25 (Nat.le_of_ble_eq_true rfl) (q := 15) rfl qf_X8_54 dX8_mark_11 ?_
    refine lv_iload_n hx hb dX8_mark_14 rfl (lv_at hl 1 rfl) ?_
    obtain ⟨x10004, ex10004, h⟩ := zbdE h
    refine zr_iald S hK hE (zm_15 w10002) dX8_mark_15 ex10004 ?_
    refine lv_if_ge (tgt := 22) hx hb dX8_mark_16 (by decide) (fun c10005 => ?_) (fun c10005 => ?_)
    · have h := zif c10005 h
      refine lv_iload_n hx hb dX8_mark_22 rfl (lv_at hl 2 rfl) ?_
      refine lv_iconst (v := 0) hx hb dX8_mark_23 (by decide) ?_
      refine lv_aload_n hx hb dX8_mark_24 rfl (lv_at hl 0 rfl) ?_
      refine zr_getA S hK hE zcl_X8 (zm_0 w10002) 26 (Nat.le_of_ble_eq_true rfl) (q := 16) rfl qf_X8_57 dX8_mark_25 ?_
      refine lv_iload_n hx hb dX8_mark_28 rfl (lv_at hl 1 rfl) ?_
      obtain ⟨x10006, ex10006, h⟩ := zbdE h
      refine zr_iald S hK hE (zm_16 w10002) dX8_mark_29 ex10006 ?_
      refine lv_iconst (v := 1) hx hb dX8_mark_30 (by decide) ?_
      refine lv_isub hx hb dX8_mark_31 ?_
      obtain ⟨x10007, w10008, ew10008, h⟩ := zbd2E h
      refine zr_i (zr_runS (As := [.int a2, .int 0, .int (x10006 - 1)]) S hX hE (kX8_in l D tc lo ad fr zq a2 0 (x10006 - 1) w10002 x10007 w10008 ew10008) zyX8_in qm_X8_81 ⟨rfl, rfl⟩ ⟨Nat.le_of_ble_eq_true rfl, Nat.le_of_ble_eq_true rfl⟩ rfl hl.1 rfl (Nat.le_of_ble_eq_true rfl) dX8_mark_32 ⟨Nat.zero_le _, Nat.zero_le _⟩) hE (fun H locs hE => ?_)
      refine lv_if_ne (tgt := 42) hx hb dX8_mark_35 (by decide) (fun c10009 => ?_) (fun c10009 => ?_)
      · have h := zif' c10009 h
        refine lv_aload_n hx hb dX8_mark_42 rfl (lv_at hl 0 rfl) ?_
        refine zr_getA S hK hE zcl_X8 (zm_0 w10008) 25 (Nat.le_of_ble_eq_true rfl) (q := 15) rfl qf_X8_54 dX8_mark_43 ?_
        refine lv_iload_n hx hb dX8_mark_46 rfl (lv_at hl 1 rfl) ?_
        obtain ⟨x10010, ex10010, h⟩ := zbdE h
        refine zr_iald S hK hE (zm_15 w10008) dX8_mark_47 ex10010 ?_
        refine lv_if_ne (tgt := 60) hx hb dX8_mark_48 (by decide) (fun c10011 => ?_) (fun c10011 => ?_)
        · have h := zif' c10011 h
          exact J60 a1 a2 a3 w10008 ls _ _ h (lv_sub hl [0, 1, 2, 3] rfl) hE
        · have h := zif c10011 h
          refine lv_iload_n hx hb dX8_mark_51 rfl (lv_at hl 3 rfl) ?_
          refine zr_ldc S qc_X8_176 dX8_mark_52 ?_
          refine lv_icmp_ne (tgt := 60) hx hb dX8_mark_54 (by decide) (fun c10012 => ?_) (fun c10012 => ?_)
          · have h := zif' c10012 h
            exact J60 a1 a2 a3 w10008 ls _ _ h (lv_sub hl [0, 1, 2, 3] rfl) hE
          · have h := zif c10012 h
            refine zr_ldc S qc_X8_136 dX8_mark_57 ?_
            exact zr_iret S hE hr hlk h dX8_mark_59
      · have h := zif c10009 h
        refine zr_ldcw S qc_X8_290 dX8_mark_38 ?_
        exact zr_iret S hE hr hlk h dX8_mark_41
    · have h := zif' c10005 h
      refine zr_ldc S qc_X8_200 dX8_mark_19 ?_
      exact zr_iret S hE hr hlk h dX8_mark_21
  · have h := zif c10003 h
    refine zr_ldc S qc_X8_97 dX8_mark_7 ?_
    exact zr_iret S hE hr hlk h dX8_mark_9
set_option maxHeartbeats 4000000 in
set_option maxRecDepth 100000 in
theorem kX8_nameOf (l : Launch) (D : va_G) (tc : Nat → ClassId) (lo : Nat) (ad : Nat → Nat) (fr : va_W) (zq : zz_Q) (a1 : Int32) (w : zz_W) (r : Int32) (w_ : zz_W) (h : fX8_nameOf a1 w = some (r, w_)) : zMi l yX8_nameOf cX8_nameOf 2 (some .int) { frames := 0, cells := 0, slots := 0, locals := 0 } D tc lo ad zshM znnM fr zq [.ref (ad 0), .int a1] w r w_ := by
  refine zr_entry (by decide) (Nat.le_of_ble_eq_true rfl) fun p e s m args below meth c ls S hX hr hlk hE hl => ?_
  have S : CallFix p m c cX8_nameOf 2 s args (Cond.code yX8_nameOf cX8_nameOf 2 (some .int) :: zw_tb) RX8 := S
  have hx := S.1
  have hb := S.2.1
  have hK := hX.2.1
  have hl : lv_has ls 2 [(0, .ref (ad 0)), (1, .int a1)] := hl
  unfold fX8_nameOf at h
  refine lv_aload_n hx hb dX8_nameOf_0 rfl (lv_at hl 0 rfl) ?_
  obtain ⟨x10001, ex10001, h⟩ := zbdE h
  refine zr_getI S hK hE zcl_X8 (zm_0 w) 14 (Nat.le_of_ble_eq_true rfl) rfl qf_X8_247 dX8_nameOf_1 ex10001 ?_
  by_cases c10005 : x10001 = 0
  · refine lv_lookup (off := 28) (tgt := 32) hx hb dX8_nameOf_4 (by decide) (by rw [c10005]; decide) (by decide) ?_
    have h := zif c10005 h
    refine lv_iload_n hx hb dX8_nameOf_32 rfl (lv_at hl 1 rfl) ?_
    refine lv_bipush (v := 100) hx hb dX8_nameOf_33 (by decide) ?_
    refine lv_icmp_ne (tgt := 42) hx hb dX8_nameOf_35 (by decide) (fun c10002 => ?_) (fun c10002 => ?_)
    · have h := zif' c10002 h
      refine lv_iload_n hx hb dX8_nameOf_42 rfl (lv_at hl 1 rfl) ?_
      refine lv_bipush (v := 109) hx hb dX8_nameOf_43 (by decide) ?_
      refine lv_icmp_ne (tgt := 52) hx hb dX8_nameOf_45 (by decide) (fun c10003 => ?_) (fun c10003 => ?_)
      · have h := zif' c10003 h
        refine lv_iload_n hx hb dX8_nameOf_52 rfl (lv_at hl 1 rfl) ?_
        refine lv_bipush (v := 108) hx hb dX8_nameOf_53 (by decide) ?_
        refine lv_icmp_ne (tgt := 62) hx hb dX8_nameOf_55 (by decide) (fun c10004 => ?_) (fun c10004 => ?_)
        · have h := zif' c10004 h
          refine lv_iconst (v := (-1)) hx hb dX8_nameOf_62 (by decide) ?_
          exact zr_iret S hE hr hlk h dX8_nameOf_63
        · have h := zif c10004 h
          refine lv_iconst (v := 2) hx hb dX8_nameOf_58 (by decide) ?_
          refine lv_goto (tgt := 63) hx hb dX8_nameOf_59 (by decide) ?_
          exact zr_iret S hE hr hlk h dX8_nameOf_63
      · have h := zif c10003 h
        refine lv_iconst (v := 1) hx hb dX8_nameOf_48 (by decide) ?_
        refine lv_goto (tgt := 63) hx hb dX8_nameOf_49 (by decide) ?_
        exact zr_iret S hE hr hlk h dX8_nameOf_63
    · have h := zif c10002 h
      refine lv_iconst (v := 0) hx hb dX8_nameOf_38 (by decide) ?_
      refine lv_goto (tgt := 63) hx hb dX8_nameOf_39 (by decide) ?_
      exact zr_iret S hE hr hlk h dX8_nameOf_63
  have h := zif' c10005 h
  by_cases c10008 : x10001 = 1
  · refine lv_lookup (off := 60) (tgt := 64) hx hb dX8_nameOf_4 (by decide) (by rw [c10008]; decide) (by decide) ?_
    have h := zif c10008 h
    refine lv_iload_n hx hb dX8_nameOf_64 rfl (lv_at hl 1 rfl) ?_
    refine lv_bipush (v := 99) hx hb dX8_nameOf_65 (by decide) ?_
    refine lv_icmp_ne (tgt := 74) hx hb dX8_nameOf_67 (by decide) (fun c10006 => ?_) (fun c10006 => ?_)
    · have h := zif' c10006 h
      refine lv_iload_n hx hb dX8_nameOf_74 rfl (lv_at hl 1 rfl) ?_
      refine lv_bipush (v := 116) hx hb dX8_nameOf_75 (by decide) ?_
      refine lv_icmp_ne (tgt := 84) hx hb dX8_nameOf_77 (by decide) (fun c10007 => ?_) (fun c10007 => ?_)
      · have h := zif' c10007 h
        refine lv_iconst (v := (-1)) hx hb dX8_nameOf_84 (by decide) ?_
        exact zr_iret S hE hr hlk h dX8_nameOf_85
      · have h := zif c10007 h
        refine lv_iconst (v := 1) hx hb dX8_nameOf_80 (by decide) ?_
        refine lv_goto (tgt := 85) hx hb dX8_nameOf_81 (by decide) ?_
        exact zr_iret S hE hr hlk h dX8_nameOf_85
    · have h := zif c10006 h
      refine lv_iconst (v := 0) hx hb dX8_nameOf_70 (by decide) ?_
      refine lv_goto (tgt := 85) hx hb dX8_nameOf_71 (by decide) ?_
      exact zr_iret S hE hr hlk h dX8_nameOf_85
  have h := zif' c10008 h
  refine lv_lookup (off := 82) (tgt := 86) hx hb dX8_nameOf_4 (by decide) (by show Op.lookupswitch.offset [(0, 28), (1, 60)] 82 _ = 82; rw [lv_osw c10005 (a := 0) (by decide), lv_osw c10008 (a := 1) (by decide)]; rfl) (by decide) ?_
  refine lv_iload_n hx hb dX8_nameOf_86 rfl (lv_at hl 1 rfl) ?_
  refine lv_bipush (v := 111) hx hb dX8_nameOf_87 (by decide) ?_
  refine lv_icmp_ne (tgt := 96) hx hb dX8_nameOf_89 (by decide) (fun c10009 => ?_) (fun c10009 => ?_)
  · have h := zif' c10009 h
    refine lv_iload_n hx hb dX8_nameOf_96 rfl (lv_at hl 1 rfl) ?_
    refine lv_bipush (v := 100) hx hb dX8_nameOf_97 (by decide) ?_
    refine lv_icmp_ne (tgt := 106) hx hb dX8_nameOf_99 (by decide) (fun c10010 => ?_) (fun c10010 => ?_)
    · have h := zif' c10010 h
      refine lv_iconst (v := (-1)) hx hb dX8_nameOf_106 (by decide) ?_
      exact zr_iret S hE hr hlk h dX8_nameOf_107
    · have h := zif c10010 h
      refine lv_iconst (v := 1) hx hb dX8_nameOf_102 (by decide) ?_
      refine lv_goto (tgt := 107) hx hb dX8_nameOf_103 (by decide) ?_
      exact zr_iret S hE hr hlk h dX8_nameOf_107
  · have h := zif c10009 h
    refine lv_iconst (v := 0) hx hb dX8_nameOf_92 (by decide) ?_
    refine lv_goto (tgt := 107) hx hb dX8_nameOf_93 (by decide) ?_
    exact zr_iret S hE hr hlk h dX8_nameOf_107
set_option maxHeartbeats 4000000 in
set_option maxRecDepth 100000 in
theorem kX8_notsOpen (l : Launch) (D : va_G) (tc : Nat → ClassId) (lo : Nat) (ad : Nat → Nat) (fr : va_W) (zq : zz_Q) (w : zz_W) (r : Int32) (w_ : zz_W) (h : fX8_notsOpen w = some (r, w_)) : zMi l yX8_notsOpen cX8_notsOpen 3 (some .int) { frames := 0, cells := 0, slots := 0, locals := 0 } D tc lo ad zshM znnM fr zq [.ref (ad 0)] w r w_ := by
  refine zr_entry (by decide) (Nat.le_of_ble_eq_true rfl) fun p e s m args below meth c ls S hX hr hlk hE hl => ?_
  have S : CallFix p m c cX8_notsOpen 3 s args (Cond.code yX8_notsOpen cX8_notsOpen 3 (some .int) :: zw_tb) RX8 := S
  have hx := S.1
  have hb := S.2.1
  have hK := hX.2.1
  have hl : lv_has ls 3 [(0, .ref (ad 0))] := hl
  unfold fX8_notsOpen at h
  have L4 : ∀ (n : Nat) (l1 : Int32) (l2 : Int32) (w : zz_W) (ls : Array Slot) (H : Heap) (locs : List Loc), fX8_notsOpen_4 n l1 l2 w = some (r, w_) → lv_has ls 3 [(0, .ref (ad 0)), (1, .int l1), (2, .int l2)] → zE D tc lo ad zshM znnM fr w s.heap H locs → W p l e { frames := 0, cells := 0, slots := 0, locals := 0 } s m args below meth c H locs 0 0 (zZi D tc lo ad zshM znnM fr below args s r w_) (F0 m 4 ls []) := by
    intro n4
    induction n4 with
    | zero => intro l1 l2 w ls H locs h hl hE; rw [fX8_notsOpen_4] at h; cases h
    | succ n4 ih4 =>
      intro l1 l2 w ls H locs h hl hE
      rw [fX8_notsOpen_4] at h
      refine lv_iload_n hx hb dX8_notsOpen_4 rfl (lv_at hl 2 rfl) ?_
      refine lv_aload_n hx hb dX8_notsOpen_5 rfl (lv_at hl 0 rfl) ?_
      obtain ⟨x17, ex17, h⟩ := zbdE h
      refine zr_getI S hK hE zcl_X8 (zm_0 w) 21 (Nat.le_of_ble_eq_true rfl) rfl qf_X8_253 dX8_notsOpen_6 ex17 ?_
      refine lv_icmp_ge (tgt := 37) hx hb dX8_notsOpen_9 (by decide) (fun c18 => ?_) (fun c18 => ?_)
      · have h := zif c18 h
        refine lv_iload_n hx hb dX8_notsOpen_37 rfl (lv_at hl 1 rfl) ?_
        exact zr_iret S hE hr hlk h dX8_notsOpen_38
      · have h := zif' c18 h
        refine lv_iload_n hx hb dX8_notsOpen_12 rfl (lv_at hl 1 rfl) ?_
        refine lv_aload_n hx hb dX8_notsOpen_13 rfl (lv_at hl 0 rfl) ?_
        refine zr_getA S hK hE zcl_X8 (zm_0 w) 20 (Nat.le_of_ble_eq_true rfl) (q := 11) rfl qf_X8_41 dX8_notsOpen_14 ?_
        refine lv_iload_n hx hb dX8_notsOpen_17 rfl (lv_at hl 2 rfl) ?_
        obtain ⟨x19, ex19, h⟩ := zbdE h
        refine zr_iald S hK hE (zm_11 w) dX8_notsOpen_18 ex19 ?_
        refine lv_bipush (v := (-10)) hx hb dX8_notsOpen_19 (by decide) ?_
        refine lv_icmp_ne (tgt := 28) hx hb dX8_notsOpen_21 (by decide) (fun c20 => ?_) (fun c20 => ?_)
        · have h := zif' c20 h
          refine lv_iconst (v := 0) hx hb dX8_notsOpen_28 (by decide) ?_
          refine lv_iadd hx hb dX8_notsOpen_29 ?_
          obtain ⟨x21, ex21, h⟩ := zbdE h
          refine zr_topi ex21 ?_
          refine lv_istore_n (lv' := [(1, .int x21), (0, .ref (ad 0)), (2, .int l2)]) hx hb dX8_notsOpen_30 rfl hl (by decide) rfl (fun ls hl => ?_)
          obtain ⟨x22, ex22, h⟩ := zbdE h
          refine lv_iinc (v := x22) (lv' := [(2, .int x22), (1, .int x21), (0, .ref (ad 0))]) hx hb dX8_notsOpen_31 hl (k := 2) rfl (zinc (k := 1) (by decide) ex22) (by decide) rfl (fun ls hl => ?_)
          refine lv_goto (tgt := 4) hx hb dX8_notsOpen_34 (by decide) ?_
          exact ih4 x21 x22 w ls _ _ h (lv_sub hl [2, 1, 0] rfl) hE
        · have h := zif c20 h
          refine lv_iconst (v := 1) hx hb dX8_notsOpen_24 (by decide) ?_
          refine lv_goto (tgt := 29) hx hb dX8_notsOpen_25 (by decide) ?_
          refine lv_iadd hx hb dX8_notsOpen_29 ?_
          obtain ⟨x23, ex23, h⟩ := zbdE h
          refine zr_topi ex23 ?_
          refine lv_istore_n (lv' := [(1, .int x23), (0, .ref (ad 0)), (2, .int l2)]) hx hb dX8_notsOpen_30 rfl hl (by decide) rfl (fun ls hl => ?_)
          obtain ⟨x24, ex24, h⟩ := zbdE h
          refine lv_iinc (v := x24) (lv' := [(2, .int x24), (1, .int x23), (0, .ref (ad 0))]) hx hb dX8_notsOpen_31 hl (k := 2) rfl (zinc (k := 1) (by decide) ex24) (by decide) rfl (fun ls hl => ?_)
          refine lv_goto (tgt := 4) hx hb dX8_notsOpen_34 (by decide) ?_
          exact ih4 x23 x24 w ls _ _ h (lv_sub hl [2, 1, 0] rfl) hE
  refine lv_iconst (v := 0) hx hb dX8_notsOpen_0 (by decide) ?_
  refine lv_istore_n (lv' := [(1, .int 0), (0, .ref (ad 0))]) hx hb dX8_notsOpen_1 rfl hl (by decide) rfl (fun ls hl => ?_)
  refine lv_iconst (v := 0) hx hb dX8_notsOpen_2 (by decide) ?_
  refine lv_istore_n (lv' := [(2, .int 0), (1, .int 0), (0, .ref (ad 0))]) hx hb dX8_notsOpen_3 rfl hl (by decide) rfl (fun ls hl => ?_)
  exact L4 zfuel 0 0 w ls _ _ h (lv_sub hl [2, 1, 0] rfl) hE
set_option maxHeartbeats 4000000 in
set_option maxRecDepth 100000 in
theorem kX8_passes (l : Launch) (D : va_G) (tc : Nat → ClassId) (lo : Nat) (ad : Nat → Nat) (fr : va_W) (zq : zz_Q) (a1 : Int32) (a2 : Int32) (w : zz_W) (r : Int32) (w_ : zz_W) (h : fX8_passes a1 a2 w = some (r, w_)) : zMi l yX8_passes cX8_passes 5 (some .int) { frames := 2, cells := 0, slots := 0, locals := 47 } D tc lo ad zshM znnM fr zq [.ref (ad 0), .int a1, .int a2] w r w_ := by
  refine zr_entry (by decide) (Nat.le_of_ble_eq_true rfl) fun p e s m args below meth c ls S hX hr hlk hE hl => ?_
  have S : CallFix p m c cX8_passes 5 s args (Cond.code yX8_passes cX8_passes 5 (some .int) :: zw_tb) RX8 := S
  have hx := S.1
  have hb := S.2.1
  have hK := hX.2.1
  have hl : lv_has ls 5 [(0, .ref (ad 0)), (1, .int a1), (2, .int a2)] := hl
  unfold fX8_passes at h
  have L25 : ∀ (n : Nat) (l1 : Int32) (l2 : Int32) (l3 : Int32) (l4 : Int32) (w : zz_W) (ls : Array Slot) (H : Heap) (locs : List Loc), fX8_passes_25 a1 a2 n l1 l2 l3 l4 w = some (r, w_) → lv_has ls 5 [(0, .ref (ad 0)), (1, .int l1), (2, .int l2), (3, .int l3), (4, .int l4)] → zE D tc lo ad zshM znnM fr w s.heap H locs → W p l e { frames := 2, cells := 0, slots := 0, locals := 47 } s m args below meth c H locs 0 0 (zZi D tc lo ad zshM znnM fr below args s r w_) (F0 m 25 ls []) := by
    intro n25
    induction n25 with
    | zero => intro l1 l2 l3 l4 w ls H locs h hl hE; rw [fX8_passes_25] at h; cases h
    | succ n25 ih25 =>
      intro l1 l2 l3 l4 w ls H locs h hl hE
      rw [fX8_passes_25] at h
      refine lv_iload hx hb dX8_passes_25 (lv_at hl 4 rfl) ?_
      refine lv_bipush (v := 6) hx hb dX8_passes_27 (by decide) ?_
      refine lv_icmp_ge (tgt := 64) hx hb dX8_passes_29 (by decide) (fun c29 => ?_) (fun c29 => ?_)
      · have h := zif c29 h
        refine lv_iload_n hx hb dX8_passes_64 rfl (lv_at hl 3 rfl) ?_
        exact zr_iret S hE hr hlk h dX8_passes_65
      · have h := zif' c29 h
        refine lv_iload_n hx hb dX8_passes_32 rfl (lv_at hl 3 rfl) ?_
        refine lv_aload_n hx hb dX8_passes_33 rfl (lv_at hl 0 rfl) ?_
        refine lv_iload_n hx hb dX8_passes_34 rfl (lv_at hl 1 rfl) ?_
        refine lv_bipush (v := 6) hx hb dX8_passes_35 (by decide) ?_
        refine lv_iload_n hx hb dX8_passes_37 rfl (lv_at hl 2 rfl) ?_
        refine lv_imul hx hb dX8_passes_38 ?_
        refine lv_iload hx hb dX8_passes_39 (lv_at hl 4 rfl) ?_
        refine lv_iadd hx hb dX8_passes_41 ?_
        obtain ⟨x30, w31, ew31, h⟩ := zbd2E h
        refine zr_i (zr_runV (As := [.int l1, .int ((6 * l2) + l4)]) S hX hE (kX8_doesPass l D tc lo ad fr zq l1 ((6 * l2) + l4) w x30 w31 ew31) zyX8_doesPass qm_X8_111 zcl_X8 rfl (zm_0 w) ⟨rfl, rfl⟩ ⟨Nat.le_of_ble_eq_true rfl, Nat.le_of_ble_eq_true rfl⟩ rfl hl.1 rfl (Nat.le_of_ble_eq_true rfl) dX8_passes_42 ⟨Nat.zero_le _, Nat.zero_le _⟩) hE (fun H locs hE => ?_)
        refine lv_if_eq (tgt := 55) hx hb dX8_passes_45 (by decide) (fun c32 => ?_) (fun c32 => ?_)
        · have h := zif c32 h
          refine lv_iconst (v := 0) hx hb dX8_passes_55 (by decide) ?_
          refine lv_ior hx hb dX8_passes_56 ?_
          obtain ⟨x33, ex33, h⟩ := zbdE h
          refine zr_topi ex33 ?_
          refine lv_istore_n (lv' := [(3, .int x33), (0, .ref (ad 0)), (1, .int l1), (2, .int l2), (4, .int l4)]) hx hb dX8_passes_57 rfl hl (by decide) rfl (fun ls hl => ?_)
          obtain ⟨x34, ex34, h⟩ := zbdE h
          refine lv_iinc (v := x34) (lv' := [(4, .int x34), (3, .int x33), (0, .ref (ad 0)), (1, .int l1), (2, .int l2)]) hx hb dX8_passes_58 hl (k := 4) rfl (zinc (k := 1) (by decide) ex34) (by decide) rfl (fun ls hl => ?_)
          refine lv_goto (tgt := 25) hx hb dX8_passes_61 (by decide) ?_
          exact ih25 l1 l2 x33 x34 w31 ls _ _ h (lv_sub hl [2, 3, 4, 1, 0] rfl) hE
        · have h := zif' c32 h
          refine lv_iconst (v := 1) hx hb dX8_passes_48 (by decide) ?_
          refine lv_iload hx hb dX8_passes_49 (lv_at hl 4 rfl) ?_
          refine lv_ishl hx hb dX8_passes_51 ?_
          refine lv_goto (tgt := 56) hx hb dX8_passes_52 (by decide) ?_
          refine lv_ior hx hb dX8_passes_56 ?_
          obtain ⟨x35, ex35, h⟩ := zbdE h
          refine zr_topi ex35 ?_
          refine lv_istore_n (lv' := [(3, .int x35), (0, .ref (ad 0)), (1, .int l1), (2, .int l2), (4, .int l4)]) hx hb dX8_passes_57 rfl hl (by decide) rfl (fun ls hl => ?_)
          obtain ⟨x36, ex36, h⟩ := zbdE h
          refine lv_iinc (v := x36) (lv' := [(4, .int x36), (3, .int x35), (0, .ref (ad 0)), (1, .int l1), (2, .int l2)]) hx hb dX8_passes_58 hl (k := 4) rfl (zinc (k := 1) (by decide) ex36) (by decide) rfl (fun ls hl => ?_)
          refine lv_goto (tgt := 25) hx hb dX8_passes_61 (by decide) ?_
          exact ih25 l1 l2 x35 x36 w31 ls _ _ h (lv_sub hl [2, 3, 4, 1, 0] rfl) hE
  refine lv_aload_n hx hb dX8_passes_0 rfl (lv_at hl 0 rfl) ?_
  refine lv_iload_n hx hb dX8_passes_1 rfl (lv_at hl 1 rfl) ?_
  obtain ⟨x10001, w10002, ew10002, h⟩ := zbd2E h
  refine zr_i (zr_runV (As := [.int a1]) S hX hE (kX8_isRun l D tc lo ad fr zq a1 w x10001 w10002 ew10002) zyX8_isRun qm_X8_121 zcl_X8 rfl (zm_0 w) ⟨rfl, rfl⟩ ⟨Nat.le_of_ble_eq_true rfl, Nat.le_of_ble_eq_true rfl⟩ rfl hl.1 rfl (Nat.le_of_ble_eq_true rfl) dX8_passes_2 ⟨Nat.zero_le _, Nat.zero_le _⟩) hE (fun H locs hE => ?_)
  refine lv_if_eq (tgt := 17) hx hb dX8_passes_5 (by decide) (fun c10003 => ?_) (fun c10003 => ?_)
  · have h := zif c10003 h
    refine zr_ldc S qc_X8_97 dX8_passes_17 ?_
    exact zr_iret S hE hr hlk h dX8_passes_19
  · have h := zif' c10003 h
    refine lv_iload_n hx hb dX8_passes_8 rfl (lv_at hl 2 rfl) ?_
    refine lv_iconst (v := 0) hx hb dX8_passes_9 (by decide) ?_
    refine lv_iconst (v := 5) hx hb dX8_passes_10 (by decide) ?_
    obtain ⟨x10004, w10005, ew10005, h⟩ := zbd2E h
    refine zr_i (zr_runS (As := [.int a2, .int 0, .int 5]) S hX hE (kX8_in l D tc lo ad fr zq a2 0 5 w10002 x10004 w10005 ew10005) zyX8_in qm_X8_81 ⟨rfl, rfl⟩ ⟨Nat.le_of_ble_eq_true rfl, Nat.le_of_ble_eq_true rfl⟩ rfl hl.1 rfl (Nat.le_of_ble_eq_true rfl) dX8_passes_11 ⟨Nat.zero_le _, Nat.zero_le _⟩) hE (fun H locs hE => ?_)
    refine lv_if_ne (tgt := 20) hx hb dX8_passes_14 (by decide) (fun c10006 => ?_) (fun c10006 => ?_)
    · have h := zif' c10006 h
      refine lv_iconst (v := 0) hx hb dX8_passes_20 (by decide) ?_
      refine lv_istore_n (lv' := [(3, .int 0), (0, .ref (ad 0)), (1, .int a1), (2, .int a2)]) hx hb dX8_passes_21 rfl hl (by decide) rfl (fun ls hl => ?_)
      refine lv_iconst (v := 0) hx hb dX8_passes_22 (by decide) ?_
      refine lv_istore (lv' := [(4, .int 0), (3, .int 0), (0, .ref (ad 0)), (1, .int a1), (2, .int a2)]) hx hb dX8_passes_23 hl (by decide) rfl (fun ls hl => ?_)
      exact L25 zfuel a1 a2 0 0 w10005 ls _ _ h (lv_sub hl [2, 3, 4, 1, 0] rfl) hE
    · have h := zif c10006 h
      refine zr_ldc S qc_X8_97 dX8_passes_17 ?_
      exact zr_iret S hE hr hlk h dX8_passes_19
set_option maxHeartbeats 4000000 in
set_option maxRecDepth 100000 in
theorem kX8_pour (l : Launch) (D : va_G) (tc : Nat → ClassId) (lo : Nat) (ad : Nat → Nat) (fr : va_W) (zq : zz_Q) (a1 : Int32) (w : zz_W) (r : Int32) (w_ : zz_W) (h : fX8_pour a1 w = some (r, w_)) : zMi l yX8_pour cX8_pour 6 (some .int) { frames := 2, cells := 0, slots := 0, locals := 42 } D tc lo ad zshM znnM fr zq [.ref (ad 0), .int a1] w r w_ := by
  refine zr_entry (by decide) (Nat.le_of_ble_eq_true rfl) fun p e s m args below meth c ls S hX hr hlk hE hl => ?_
  have S : CallFix p m c cX8_pour 6 s args (Cond.code yX8_pour cX8_pour 6 (some .int) :: zw_tb) RX8 := S
  have hx := S.1
  have hb := S.2.1
  have hK := hX.2.1
  have hl : lv_has ls 6 [(0, .ref (ad 0)), (1, .int a1)] := hl
  unfold fX8_pour at h
  have L26 : ∀ (n : Nat) (l1 : Int32) (l2 : Int32) (l3 : Int32) (w : zz_W) (ls : Array Slot) (H : Heap) (locs : List Loc), fX8_pour_26 a1 n l1 l2 l3 w = some (r, w_) → lv_has ls 6 [(0, .ref (ad 0)), (1, .int l1), (2, .int l2), (3, .int l3)] → zE D tc lo ad zshM znnM fr w s.heap H locs → W p l e { frames := 2, cells := 0, slots := 0, locals := 42 } s m args below meth c H locs 0 0 (zZi D tc lo ad zshM znnM fr below args s r w_) (F0 m 26 ls []) := by
    intro n26
    induction n26 with
    | zero => intro l1 l2 l3 w ls H locs h hl hE; rw [fX8_pour_26] at h; cases h
    | succ n26 ih26 =>
      intro l1 l2 l3 w ls H locs h hl hE
      rw [fX8_pour_26] at h
      have J83 : ∀ (l1 : Int32) (l2 : Int32) (l3 : Int32) (s0 : Int32) (w : zz_W) (ls : Array Slot) (H : Heap) (locs : List Loc), fX8_pour_83 a1 (fX8_pour_26 a1 n26) l1 l2 l3 s0 w = some (r, w_) → lv_has ls 6 [(0, .ref (ad 0)), (1, .int l1), (2, .int l2), (3, .int l3)] → zE D tc lo ad zshM znnM fr w s.heap H locs → W p l e { frames := 2, cells := 0, slots := 0, locals := 42 } s m args below meth c H locs 0 0 (zZi D tc lo ad zshM znnM fr below args s r w_) (F0 m 83 ls [.int s0]) := by
        intro l1 l2 l3 s0 w ls H locs h hl hE
        unfold fX8_pour_83 at h
        refine lv_istore (lv' := [(5, .int s0), (0, .ref (ad 0)), (1, .int l1), (2, .int l2), (3, .int l3)]) hx hb dX8_pour_83 hl (by decide) rfl (fun ls hl => ?_)
        refine lv_iload_n hx hb dX8_pour_85 rfl (lv_at hl 3 rfl) ?_
        refine lv_aload_n hx hb dX8_pour_86 rfl (lv_at hl 1 rfl) ?_
        refine lv_bipush (v := 14) hx hb dX8_pour_87 (by decide) ?_
        refine lv_iconst (v := 5) hx hb dX8_pour_89 (by decide) ?_
        refine lv_iload_n hx hb dX8_pour_90 rfl (lv_at hl 4 rfl) ?_
        refine lv_imul hx hb dX8_pour_91 ?_
        refine lv_iadd hx hb dX8_pour_92 ?_
        refine lv_iconst (v := 2) hx hb dX8_pour_93 (by decide) ?_
        refine lv_iadd hx hb dX8_pour_94 ?_
        refine lv_iload hx hb dX8_pour_95 (lv_at hl 0 rfl) ?_
        obtain ⟨x45, w46, ew46, h⟩ := zbd2E h
        refine zr_i (zr_runV (As := [.int ((14 + (5 * l3)) + 2), .int s0]) S hX hE (kX8_becomes l D tc lo ad fr zq ((14 + (5 * l3)) + 2) s0 w x45 w46 ew46) zyX8_becomes qm_X8_137 zcl_X8 rfl (zm_0 w) ⟨rfl, rfl⟩ ⟨Nat.le_of_ble_eq_true rfl, Nat.le_of_ble_eq_true rfl⟩ rfl hl.1 rfl (Nat.le_of_ble_eq_true rfl) dX8_pour_97 ⟨Nat.zero_le _, Nat.zero_le _⟩) hE (fun H locs hE => ?_)
        refine lv_iload hx hb dX8_pour_100 (lv_at hl 0 rfl) ?_
        refine lv_icmp_ne (tgt := 109) hx hb dX8_pour_102 (by decide) (fun c47 => ?_) (fun c47 => ?_)
        · have h := zif' c47 h
          refine lv_iconst (v := 1) hx hb dX8_pour_109 (by decide) ?_
          refine lv_iadd hx hb dX8_pour_110 ?_
          obtain ⟨x48, ex48, h⟩ := zbdE h
          refine zr_topi ex48 ?_
          refine lv_istore_n (lv' := [(2, .int x48), (5, .int s0), (0, .ref (ad 0)), (1, .int l1), (3, .int l3)]) hx hb dX8_pour_111 rfl hl (by decide) rfl (fun ls hl => ?_)
          obtain ⟨x49, ex49, h⟩ := zbdE h
          refine lv_iinc (v := x49) (lv' := [(3, .int x49), (2, .int x48), (5, .int s0), (0, .ref (ad 0)), (1, .int l1)]) hx hb dX8_pour_112 hl (k := 4) rfl (zinc (k := 1) (by decide) ex49) (by decide) rfl (fun ls hl => ?_)
          refine lv_goto (tgt := 26) hx hb dX8_pour_115 (by decide) ?_
          exact ih26 l1 x48 x49 w46 ls _ _ h (lv_sub hl [3, 4, 1, 0] rfl) hE
        · have h := zif c47 h
          refine lv_iconst (v := 0) hx hb dX8_pour_105 (by decide) ?_
          refine lv_goto (tgt := 110) hx hb dX8_pour_106 (by decide) ?_
          refine lv_iadd hx hb dX8_pour_110 ?_
          obtain ⟨x50, ex50, h⟩ := zbdE h
          refine zr_topi ex50 ?_
          refine lv_istore_n (lv' := [(2, .int x50), (5, .int s0), (0, .ref (ad 0)), (1, .int l1), (3, .int l3)]) hx hb dX8_pour_111 rfl hl (by decide) rfl (fun ls hl => ?_)
          obtain ⟨x51, ex51, h⟩ := zbdE h
          refine lv_iinc (v := x51) (lv' := [(3, .int x51), (2, .int x50), (5, .int s0), (0, .ref (ad 0)), (1, .int l1)]) hx hb dX8_pour_112 hl (k := 4) rfl (zinc (k := 1) (by decide) ex51) (by decide) rfl (fun ls hl => ?_)
          refine lv_goto (tgt := 26) hx hb dX8_pour_115 (by decide) ?_
          exact ih26 l1 x50 x51 w46 ls _ _ h (lv_sub hl [3, 4, 1, 0] rfl) hE
      refine lv_iload_n hx hb dX8_pour_26 rfl (lv_at hl 3 rfl) ?_
      refine lv_aload_n hx hb dX8_pour_27 rfl (lv_at hl 0 rfl) ?_
      refine zr_getA S hK hE zcl_X8 (zm_0 w) 26 (Nat.le_of_ble_eq_true rfl) (q := 16) rfl qf_X8_57 dX8_pour_28 ?_
      refine lv_iload_n hx hb dX8_pour_31 rfl (lv_at hl 1 rfl) ?_
      obtain ⟨x52, ex52, h⟩ := zbdE h
      refine zr_iald S hK hE (zm_16 w) dX8_pour_32 ex52 ?_
      refine lv_icmp_ge (tgt := 118) hx hb dX8_pour_33 (by decide) (fun c53 => ?_) (fun c53 => ?_)
      · have h := zif c53 h
        refine lv_iload_n hx hb dX8_pour_118 rfl (lv_at hl 2 rfl) ?_
        exact zr_iret S hE hr hlk h dX8_pour_119
      · have h := zif' c53 h
        refine lv_iload_n hx hb dX8_pour_36 rfl (lv_at hl 3 rfl) ?_
        refine lv_aload_n hx hb dX8_pour_37 rfl (lv_at hl 0 rfl) ?_
        refine zr_getA S hK hE zcl_X8 (zm_0 w) 0 (Nat.le_of_ble_eq_true rfl) (q := 1) rfl qf_X8_9 dX8_pour_38 ?_
        refine lv_iconst (v := 1) hx hb dX8_pour_41 (by decide) ?_
        obtain ⟨x54, ex54, h⟩ := zbdE h
        refine zr_iald S hK hE (zm_1 w) dX8_pour_42 ex54 ?_
        refine lv_icmp_ge (tgt := 118) hx hb dX8_pour_43 (by decide) (fun c55 => ?_) (fun c55 => ?_)
        · have h := zif c55 h
          refine lv_iload_n hx hb dX8_pour_118 rfl (lv_at hl 2 rfl) ?_
          exact zr_iret S hE hr hlk h dX8_pour_119
        · have h := zif' c55 h
          refine lv_aload_n hx hb dX8_pour_46 rfl (lv_at hl 0 rfl) ?_
          refine zr_getA S hK hE zcl_X8 (zm_0 w) 27 (Nat.le_of_ble_eq_true rfl) (q := 17) rfl qf_X8_60 dX8_pour_47 ?_
          refine lv_bipush (v := 24) hx hb dX8_pour_50 (by decide) ?_
          refine lv_iload_n hx hb dX8_pour_52 rfl (lv_at hl 1 rfl) ?_
          refine lv_imul hx hb dX8_pour_53 ?_
          refine lv_iload_n hx hb dX8_pour_54 rfl (lv_at hl 3 rfl) ?_
          refine lv_iadd hx hb dX8_pour_55 ?_
          obtain ⟨x56, ex56, h⟩ := zbdE h
          refine zr_iald S hK hE (zm_17 w) dX8_pour_56 ex56 ?_
          refine lv_istore (lv' := [(4, .int x56), (0, .ref (ad 0)), (1, .int l1), (2, .int l2), (3, .int l3)]) hx hb dX8_pour_57 hl (by decide) rfl (fun ls hl => ?_)
          refine lv_iload hx hb dX8_pour_59 (lv_at hl 0 rfl) ?_
          refine zr_ldc S qc_X8_176 dX8_pour_61 ?_
          refine lv_icmp_ne (tgt := 75) hx hb dX8_pour_63 (by decide) (fun c57 => ?_) (fun c57 => ?_)
          · have h := zif' c57 h
            refine lv_iload hx hb dX8_pour_75 (lv_at hl 0 rfl) ?_
            refine lv_iconst (v := 1) hx hb dX8_pour_77 (by decide) ?_
            refine lv_bipush (v := 99) hx hb dX8_pour_78 (by decide) ?_
            obtain ⟨x58, w59, ew59, h⟩ := zbd2E h
            refine zr_i (zr_runS (As := [.int x56, .int 1, .int 99]) S hX hE (kX8_within l D tc lo ad fr zq x56 1 99 w x58 w59 ew59) zyX8_within qm_X8_107 ⟨rfl, rfl⟩ ⟨Nat.le_of_ble_eq_true rfl, Nat.le_of_ble_eq_true rfl⟩ rfl hl.1 rfl (Nat.le_of_ble_eq_true rfl) dX8_pour_80 ⟨Nat.zero_le _, Nat.zero_le _⟩) hE (fun H locs hE => ?_)
            exact J83 l1 l2 l3 x58 w59 ls _ _ h (lv_sub hl [1, 2, 3, 4] rfl) hE
          · have h := zif c57 h
            refine lv_aload_n hx hb dX8_pour_66 rfl (lv_at hl 1 rfl) ?_
            refine lv_iload_n hx hb dX8_pour_67 rfl (lv_at hl 4 rfl) ?_
            refine lv_iconst (v := 2) hx hb dX8_pour_68 (by decide) ?_
            obtain ⟨x60, w61, ew61, h⟩ := zbd2E h
            refine zr_i (zr_runV (As := [.int l3, .int 2]) S hX hE (kX8_of l D tc lo ad fr zq l3 2 w x60 w61 ew61) zyX8_of qm_X8_103 zcl_X8 rfl (zm_0 w) ⟨rfl, rfl⟩ ⟨Nat.le_of_ble_eq_true rfl, Nat.le_of_ble_eq_true rfl⟩ rfl hl.1 rfl (Nat.le_of_ble_eq_true rfl) dX8_pour_69 ⟨Nat.zero_le _, Nat.zero_le _⟩) hE (fun H locs hE => ?_)
            refine lv_goto (tgt := 83) hx hb dX8_pour_72 (by decide) ?_
            exact J83 l1 l2 l3 x60 w61 ls _ _ h (lv_sub hl [1, 2, 3, 4] rfl) hE
  refine lv_iload_n hx hb dX8_pour_0 rfl (lv_at hl 1 rfl) ?_
  obtain ⟨x10001, w10002, ew10002, h⟩ := zbd2E h
  refine zr_i (zr_runS (As := [.int a1]) S hX hE (kX8_isSheet l D tc lo ad fr zq a1 w x10001 w10002 ew10002) zyX8_isSheet qm_X8_197 ⟨rfl, rfl⟩ ⟨Nat.le_of_ble_eq_true rfl, Nat.le_of_ble_eq_true rfl⟩ rfl hl.1 rfl (Nat.le_of_ble_eq_true rfl) dX8_pour_1 ⟨Nat.zero_le _, Nat.zero_le _⟩) hE (fun H locs hE => ?_)
  refine lv_if_ne (tgt := 10) hx hb dX8_pour_4 (by decide) (fun c10003 => ?_) (fun c10003 => ?_)
  · have h := zif' c10003 h
    refine lv_aload_n hx hb dX8_pour_10 rfl (lv_at hl 0 rfl) ?_
    refine zr_getA S hK hE zcl_X8 (zm_0 w10002) 25 (Nat.le_of_ble_eq_true rfl) (q := 15) rfl qf_X8_54 dX8_pour_11 ?_
    refine lv_iload_n hx hb dX8_pour_14 rfl (lv_at hl 1 rfl) ?_
    obtain ⟨x10004, ex10004, h⟩ := zbdE h
    refine zr_iald S hK hE (zm_15 w10002) dX8_pour_15 ex10004 ?_
    refine lv_if_ge (tgt := 22) hx hb dX8_pour_16 (by decide) (fun c10005 => ?_) (fun c10005 => ?_)
    · have h := zif c10005 h
      refine lv_iconst (v := 0) hx hb dX8_pour_22 (by decide) ?_
      refine lv_istore_n (lv' := [(2, .int 0), (0, .ref (ad 0)), (1, .int a1)]) hx hb dX8_pour_23 rfl hl (by decide) rfl (fun ls hl => ?_)
      refine lv_iconst (v := 0) hx hb dX8_pour_24 (by decide) ?_
      refine lv_istore_n (lv' := [(3, .int 0), (2, .int 0), (0, .ref (ad 0)), (1, .int a1)]) hx hb dX8_pour_25 rfl hl (by decide) rfl (fun ls hl => ?_)
      exact L26 zfuel a1 0 0 w10002 ls _ _ h (lv_sub hl [2, 3, 1, 0] rfl) hE
    · have h := zif' c10005 h
      refine zr_ldc S qc_X8_200 dX8_pour_19 ?_
      exact zr_iret S hE hr hlk h dX8_pour_21
  · have h := zif c10003 h
    refine zr_ldc S qc_X8_97 dX8_pour_7 ?_
    exact zr_iret S hE hr hlk h dX8_pour_9
set_option maxHeartbeats 4000000 in
set_option maxRecDepth 100000 in
theorem kX8_probe (l : Launch) (D : va_G) (tc : Nat → ClassId) (lo : Nat) (ad : Nat → Nat) (fr : va_W) (zq : zz_Q) (a1 : Int32) (a2 : Int32) (w : zz_W) (r : Int32) (w_ : zz_W) (h : fX8_probe a1 a2 w = some (r, w_)) : zMi l yX8_probe cX8_probe 3 (some .int) { frames := 4, cells := 0, slots := 0, locals := 97 } D tc lo ad zshM znnM fr zq [.ref (ad 0), .int a1, .int a2] w r w_ := by
  refine zr_entry (by decide) (Nat.le_of_ble_eq_true rfl) fun p e s m args below meth c ls S hX hr hlk hE hl => ?_
  have S : CallFix p m c cX8_probe 3 s args (Cond.code yX8_probe cX8_probe 3 (some .int) :: zw_tb) RX8 := S
  have hx := S.1
  have hb := S.2.1
  have hK := hX.2.1
  have hl : lv_has ls 3 [(0, .ref (ad 0)), (1, .int a1), (2, .int a2)] := hl
  unfold fX8_probe at h
  refine lv_iload_n hx hb dX8_probe_0 rfl (lv_at hl 1 rfl) ?_
  refine lv_iload_n hx hb dX8_probe_1 rfl (lv_at hl 2 rfl) ?_
  obtain ⟨x10001, w10002, ew10002, h⟩ := zbd2E h
  refine zr_i (zr_runS (As := [.int a1, .int a2]) S hX hE (kX8_isTest l D tc lo ad fr zq a1 a2 w x10001 w10002 ew10002) zyX8_isTest qm_X8_140 ⟨rfl, rfl⟩ ⟨Nat.le_of_ble_eq_true rfl, Nat.le_of_ble_eq_true rfl⟩ rfl hl.1 rfl (Nat.le_of_ble_eq_true rfl) dX8_probe_2 ⟨Nat.zero_le _, Nat.zero_le _⟩) hE (fun H locs hE => ?_)
  refine lv_if_ne (tgt := 11) hx hb dX8_probe_5 (by decide) (fun c10003 => ?_) (fun c10003 => ?_)
  · have h := zif' c10003 h
    refine lv_aload_n hx hb dX8_probe_11 rfl (lv_at hl 0 rfl) ?_
    refine zr_getA S hK hE zcl_X8 (zm_0 w10002) 0 (Nat.le_of_ble_eq_true rfl) (q := 1) rfl qf_X8_9 dX8_probe_12 ?_
    refine lv_bipush (v := 12) hx hb dX8_probe_15 (by decide) ?_
    obtain ⟨x10004, ex10004, h⟩ := zbdE h
    refine zr_iald S hK hE (zm_1 w10002) dX8_probe_17 ex10004 ?_
    refine lv_if_ge (tgt := 26) hx hb dX8_probe_18 (by decide) (fun c10005 => ?_) (fun c10005 => ?_)
    · have h := zif c10005 h
      refine lv_aload_n hx hb dX8_probe_26 rfl (lv_at hl 0 rfl) ?_
      refine lv_iload_n hx hb dX8_probe_27 rfl (lv_at hl 1 rfl) ?_
      refine lv_iload_n hx hb dX8_probe_28 rfl (lv_at hl 2 rfl) ?_
      obtain ⟨x10006, w10007, ew10007, h⟩ := zbd2E h
      refine zr_i (zr_runV (As := [.int a1, .int a2]) S hX hE (kX8_tests l D tc lo ad fr zq a1 a2 w10002 x10006 w10007 ew10007) zyX8_tests qm_X8_162 zcl_X8 rfl (zm_0 w10002) ⟨rfl, rfl⟩ ⟨Nat.le_of_ble_eq_true rfl, Nat.le_of_ble_eq_true rfl⟩ rfl hl.1 rfl (Nat.le_of_ble_eq_true rfl) dX8_probe_29 ⟨Nat.zero_le _, Nat.zero_le _⟩) hE (fun H locs hE => ?_)
      refine lv_if_eq (tgt := 39) hx hb dX8_probe_32 (by decide) (fun c10008 => ?_) (fun c10008 => ?_)
      · have h := zif c10008 h
        refine lv_iconst (v := 0) hx hb dX8_probe_39 (by decide) ?_
        exact zr_iret S hE hr hlk h dX8_probe_40
      · have h := zif' c10008 h
        refine lv_iconst (v := 1) hx hb dX8_probe_35 (by decide) ?_
        refine lv_goto (tgt := 40) hx hb dX8_probe_36 (by decide) ?_
        exact zr_iret S hE hr hlk h dX8_probe_40
    · have h := zif' c10005 h
      refine zr_ldc S qc_X8_154 dX8_probe_21 ?_
      refine lv_goto (tgt := 40) hx hb dX8_probe_23 (by decide) ?_
      exact zr_iret S hE hr hlk h dX8_probe_40
  · have h := zif c10003 h
    refine zr_ldc S qc_X8_97 dX8_probe_8 ?_
    exact zr_iret S hE hr hlk h dX8_probe_10
set_option maxHeartbeats 4000000 in
set_option maxRecDepth 100000 in
theorem kX8_rank (l : Launch) (D : va_G) (tc : Nat → ClassId) (lo : Nat) (ad : Nat → Nat) (fr : va_W) (zq : zz_Q) (a1 : Int32) (w : zz_W) (r : Int32) (w_ : zz_W) (h : fX8_rank a1 w = some (r, w_)) : zMi l yX8_rank cX8_rank 1 (some .int) { frames := 0, cells := 0, slots := 0, locals := 0 } D tc lo ad zshM znnM fr zq [.int a1] w r w_ := by
  refine zr_entry (by decide) (Nat.le_of_ble_eq_true rfl) fun p e s m args below meth c ls S hX hr hlk hE hl => ?_
  have S : CallFix p m c cX8_rank 1 s args (Cond.code yX8_rank cX8_rank 1 (some .int) :: zw_tb) RX8 := S
  have hx := S.1
  have hb := S.2.1
  have hK := hX.2.1
  have hl : lv_has ls 1 [(0, .int a1)] := hl
  unfold fX8_rank at h
  refine lv_iload_n hx hb dX8_rank_0 rfl (lv_at hl 0 rfl) ?_
  refine lv_iconst (v := (-1)) hx hb dX8_rank_1 (by decide) ?_
  refine lv_icmp_ne (tgt := 9) hx hb dX8_rank_2 (by decide) (fun c10001 => ?_) (fun c10001 => ?_)
  · have h := zif' c10001 h
    refine lv_iload_n hx hb dX8_rank_9 rfl (lv_at hl 0 rfl) ?_
    refine lv_bipush (v := (-2)) hx hb dX8_rank_10 (by decide) ?_
    refine lv_icmp_ne (tgt := 19) hx hb dX8_rank_12 (by decide) (fun c10002 => ?_) (fun c10002 => ?_)
    · have h := zif' c10002 h
      refine lv_iload_n hx hb dX8_rank_19 rfl (lv_at hl 0 rfl) ?_
      refine lv_bipush (v := (-5)) hx hb dX8_rank_20 (by decide) ?_
      refine lv_icmp_lt (tgt := 29) hx hb dX8_rank_22 (by decide) (fun c10003 => ?_) (fun c10003 => ?_)
      · have h := zif c10003 h
        refine lv_iload_n hx hb dX8_rank_29 rfl (lv_at hl 0 rfl) ?_
        refine lv_bipush (v := (-7)) hx hb dX8_rank_30 (by decide) ?_
        refine lv_icmp_lt (tgt := 39) hx hb dX8_rank_32 (by decide) (fun c10004 => ?_) (fun c10004 => ?_)
        · have h := zif c10004 h
          refine lv_iload_n hx hb dX8_rank_39 rfl (lv_at hl 0 rfl) ?_
          refine lv_bipush (v := (-9)) hx hb dX8_rank_40 (by decide) ?_
          refine lv_icmp_lt (tgt := 49) hx hb dX8_rank_42 (by decide) (fun c10005 => ?_) (fun c10005 => ?_)
          · have h := zif c10005 h
            refine lv_bipush (v := 6) hx hb dX8_rank_49 (by decide) ?_
            exact zr_iret S hE hr hlk h dX8_rank_51
          · have h := zif' c10005 h
            refine lv_iconst (v := 5) hx hb dX8_rank_45 (by decide) ?_
            refine lv_goto (tgt := 51) hx hb dX8_rank_46 (by decide) ?_
            exact zr_iret S hE hr hlk h dX8_rank_51
        · have h := zif' c10004 h
          refine lv_iconst (v := 4) hx hb dX8_rank_35 (by decide) ?_
          refine lv_goto (tgt := 51) hx hb dX8_rank_36 (by decide) ?_
          exact zr_iret S hE hr hlk h dX8_rank_51
      · have h := zif' c10003 h
        refine lv_iconst (v := 3) hx hb dX8_rank_25 (by decide) ?_
        refine lv_goto (tgt := 51) hx hb dX8_rank_26 (by decide) ?_
        exact zr_iret S hE hr hlk h dX8_rank_51
    · have h := zif c10002 h
      refine lv_iconst (v := 2) hx hb dX8_rank_15 (by decide) ?_
      refine lv_goto (tgt := 51) hx hb dX8_rank_16 (by decide) ?_
      exact zr_iret S hE hr hlk h dX8_rank_51
  · have h := zif c10001 h
    refine lv_iconst (v := 1) hx hb dX8_rank_5 (by decide) ?_
    refine lv_goto (tgt := 51) hx hb dX8_rank_6 (by decide) ?_
    exact zr_iret S hE hr hlk h dX8_rank_51
set_option maxHeartbeats 4000000 in
set_option maxRecDepth 100000 in
theorem kX8_reads (l : Launch) (D : va_G) (tc : Nat → ClassId) (lo : Nat) (ad : Nat → Nat) (fr : va_W) (zq : zz_Q) (a1 : Int32) (w : zz_W) (r : Int32) (w_ : zz_W) (h : fX8_reads a1 w = some (r, w_)) : zMi l yX8_reads cX8_reads 4 (some .int) { frames := 2, cells := 0, slots := 0, locals := 43 } D tc lo ad zshM znnM fr zq [.ref (ad 0), .int a1] w r w_ := by
  refine zr_entry (by decide) (Nat.le_of_ble_eq_true rfl) fun p e s m args below meth c ls S hX hr hlk hE hl => ?_
  have S : CallFix p m c cX8_reads 4 s args (Cond.code yX8_reads cX8_reads 4 (some .int) :: zw_tb) RX8 := S
  have hx := S.1
  have hb := S.2.1
  have hK := hX.2.1
  have hl : lv_has ls 4 [(0, .ref (ad 0)), (1, .int a1)] := hl
  unfold fX8_reads at h
  have L24 : ∀ (n : Nat) (l1 : Int32) (l2 : Int32) (w : zz_W) (ls : Array Slot) (H : Heap) (locs : List Loc), fX8_reads_24 a1 n l1 l2 w = some (r, w_) → lv_has ls 4 [(0, .ref (ad 0)), (1, .int l1), (2, .int l2)] → zE D tc lo ad zshM znnM fr w s.heap H locs → W p l e { frames := 2, cells := 0, slots := 0, locals := 43 } s m args below meth c H locs 0 0 (zZi D tc lo ad zshM znnM fr below args s r w_) (F0 m 24 ls []) := by
    intro n24
    induction n24 with
    | zero => intro l1 l2 w ls H locs h hl hE; rw [fX8_reads_24] at h; cases h
    | succ n24 ih24 =>
      intro l1 l2 w ls H locs h hl hE
      rw [fX8_reads_24] at h
      refine lv_iload_n hx hb dX8_reads_24 rfl (lv_at hl 2 rfl) ?_
      refine lv_aload_n hx hb dX8_reads_25 rfl (lv_at hl 0 rfl) ?_
      refine zr_getA S hK hE zcl_X8 (zm_0 w) 26 (Nat.le_of_ble_eq_true rfl) (q := 16) rfl qf_X8_57 dX8_reads_26 ?_
      refine lv_iload_n hx hb dX8_reads_29 rfl (lv_at hl 1 rfl) ?_
      obtain ⟨x35, ex35, h⟩ := zbdE h
      refine zr_iald S hK hE (zm_16 w) dX8_reads_30 ex35 ?_
      refine lv_icmp_ge (tgt := 78) hx hb dX8_reads_31 (by decide) (fun c36 => ?_) (fun c36 => ?_)
      · have h := zif c36 h
        refine zr_ldc S qc_X8_176 dX8_reads_78 ?_
        exact zr_iret S hE hr hlk h dX8_reads_80
      · have h := zif' c36 h
        refine lv_aload_n hx hb dX8_reads_34 rfl (lv_at hl 0 rfl) ?_
        refine zr_getA S hK hE zcl_X8 (zm_0 w) 27 (Nat.le_of_ble_eq_true rfl) (q := 17) rfl qf_X8_60 dX8_reads_35 ?_
        refine lv_bipush (v := 24) hx hb dX8_reads_38 (by decide) ?_
        refine lv_iload_n hx hb dX8_reads_40 rfl (lv_at hl 1 rfl) ?_
        refine lv_imul hx hb dX8_reads_41 ?_
        refine lv_iload_n hx hb dX8_reads_42 rfl (lv_at hl 2 rfl) ?_
        refine lv_iadd hx hb dX8_reads_43 ?_
        obtain ⟨x37, ex37, h⟩ := zbdE h
        refine zr_iald S hK hE (zm_17 w) dX8_reads_44 ex37 ?_
        refine lv_istore_n (lv' := [(3, .int x37), (0, .ref (ad 0)), (1, .int l1), (2, .int l2)]) hx hb dX8_reads_45 rfl hl (by decide) rfl (fun ls hl => ?_)
        refine lv_iload_n hx hb dX8_reads_46 rfl (lv_at hl 0 rfl) ?_
        refine zr_ldc S qc_X8_176 dX8_reads_47 ?_
        refine lv_icmp_eq (tgt := 72) hx hb dX8_reads_49 (by decide) (fun c38 => ?_) (fun c38 => ?_)
        · have h := zif c38 h
          obtain ⟨x39, ex39, h⟩ := zbdE h
          refine lv_iinc (v := x39) (lv' := [(2, .int x39), (3, .int x37), (0, .ref (ad 0)), (1, .int l1)]) hx hb dX8_reads_72 hl (k := 3) rfl (zinc (k := 1) (by decide) ex39) (by decide) rfl (fun ls hl => ?_)
          refine lv_goto (tgt := 24) hx hb dX8_reads_75 (by decide) ?_
          exact ih24 l1 x39 w ls _ _ h (lv_sub hl [2, 3, 0] rfl) hE
        · have h := zif' c38 h
          refine lv_aload_n hx hb dX8_reads_52 rfl (lv_at hl 1 rfl) ?_
          refine lv_iload_n hx hb dX8_reads_53 rfl (lv_at hl 3 rfl) ?_
          obtain ⟨x40, w41, ew41, h⟩ := zbd2E h
          refine zr_i (zr_runV (As := [.int l2]) S hX hE (kX8_isRun l D tc lo ad fr zq l2 w x40 w41 ew41) zyX8_isRun qm_X8_121 zcl_X8 rfl (zm_0 w) ⟨rfl, rfl⟩ ⟨Nat.le_of_ble_eq_true rfl, Nat.le_of_ble_eq_true rfl⟩ rfl hl.1 rfl (Nat.le_of_ble_eq_true rfl) dX8_reads_54 ⟨Nat.zero_le _, Nat.zero_le _⟩) hE (fun H locs hE => ?_)
          refine lv_if_eq (tgt := 70) hx hb dX8_reads_57 (by decide) (fun c42 => ?_) (fun c42 => ?_)
          · have h := zif c42 h
            refine lv_iload_n hx hb dX8_reads_70 rfl (lv_at hl 3 rfl) ?_
            exact zr_iret S hE hr hlk h dX8_reads_71
          · have h := zif' c42 h
            refine lv_iload_n hx hb dX8_reads_60 rfl (lv_at hl 0 rfl) ?_
            refine lv_aload_n hx hb dX8_reads_61 rfl (lv_at hl 1 rfl) ?_
            refine lv_iload_n hx hb dX8_reads_62 rfl (lv_at hl 3 rfl) ?_
            refine lv_iconst (v := 3) hx hb dX8_reads_63 (by decide) ?_
            obtain ⟨x43, w44, ew44, h⟩ := zbd2E h
            refine zr_i (zr_runV (As := [.int l2, .int 3]) S hX hE (kX8_of l D tc lo ad fr zq l2 3 w41 x43 w44 ew44) zyX8_of qm_X8_103 zcl_X8 rfl (zm_0 w41) ⟨rfl, rfl⟩ ⟨Nat.le_of_ble_eq_true rfl, Nat.le_of_ble_eq_true rfl⟩ rfl hl.1 rfl (Nat.le_of_ble_eq_true rfl) dX8_reads_64 ⟨Nat.zero_le _, Nat.zero_le _⟩) hE (fun H locs hE => ?_)
            refine lv_icmp_eq (tgt := 72) hx hb dX8_reads_67 (by decide) (fun c45 => ?_) (fun c45 => ?_)
            · have h := zif c45 h
              obtain ⟨x46, ex46, h⟩ := zbdE h
              refine lv_iinc (v := x46) (lv' := [(2, .int x46), (3, .int x37), (0, .ref (ad 0)), (1, .int l1)]) hx hb dX8_reads_72 hl (k := 3) rfl (zinc (k := 1) (by decide) ex46) (by decide) rfl (fun ls hl => ?_)
              refine lv_goto (tgt := 24) hx hb dX8_reads_75 (by decide) ?_
              exact ih24 l1 x46 w44 ls _ _ h (lv_sub hl [2, 3, 0] rfl) hE
            · have h := zif' c45 h
              refine lv_iload_n hx hb dX8_reads_70 rfl (lv_at hl 3 rfl) ?_
              exact zr_iret S hE hr hlk h dX8_reads_71
  refine lv_iload_n hx hb dX8_reads_0 rfl (lv_at hl 1 rfl) ?_
  obtain ⟨x10001, w10002, ew10002, h⟩ := zbd2E h
  refine zr_i (zr_runS (As := [.int a1]) S hX hE (kX8_isSheet l D tc lo ad fr zq a1 w x10001 w10002 ew10002) zyX8_isSheet qm_X8_197 ⟨rfl, rfl⟩ ⟨Nat.le_of_ble_eq_true rfl, Nat.le_of_ble_eq_true rfl⟩ rfl hl.1 rfl (Nat.le_of_ble_eq_true rfl) dX8_reads_1 ⟨Nat.zero_le _, Nat.zero_le _⟩) hE (fun H locs hE => ?_)
  refine lv_if_ne (tgt := 10) hx hb dX8_reads_4 (by decide) (fun c10003 => ?_) (fun c10003 => ?_)
  · have h := zif' c10003 h
    refine lv_aload_n hx hb dX8_reads_10 rfl (lv_at hl 0 rfl) ?_
    refine zr_getA S hK hE zcl_X8 (zm_0 w10002) 25 (Nat.le_of_ble_eq_true rfl) (q := 15) rfl qf_X8_54 dX8_reads_11 ?_
    refine lv_iload_n hx hb dX8_reads_14 rfl (lv_at hl 1 rfl) ?_
    obtain ⟨x10004, ex10004, h⟩ := zbdE h
    refine zr_iald S hK hE (zm_15 w10002) dX8_reads_15 ex10004 ?_
    refine lv_if_ge (tgt := 22) hx hb dX8_reads_16 (by decide) (fun c10005 => ?_) (fun c10005 => ?_)
    · have h := zif c10005 h
      refine lv_iconst (v := 0) hx hb dX8_reads_22 (by decide) ?_
      refine lv_istore_n (lv' := [(2, .int 0), (0, .ref (ad 0)), (1, .int a1)]) hx hb dX8_reads_23 rfl hl (by decide) rfl (fun ls hl => ?_)
      exact L24 zfuel a1 0 w10002 ls _ _ h (lv_sub hl [1, 2, 0] rfl) hE
    · have h := zif' c10005 h
      refine zr_ldc S qc_X8_200 dX8_reads_19 ?_
      exact zr_iret S hE hr hlk h dX8_reads_21
  · have h := zif c10003 h
    refine zr_ldc S qc_X8_97 dX8_reads_7 ?_
    exact zr_iret S hE hr hlk h dX8_reads_9
set_option maxHeartbeats 4000000 in
set_option maxRecDepth 100000 in
theorem kX8_rest (l : Launch) (D : va_G) (tc : Nat → ClassId) (lo : Nat) (ad : Nat → Nat) (fr : va_W) (zq : zz_Q) (a1 : Int32) (a2 : Int32) (w : zz_W) (r : Int32) (w_ : zz_W) (h : fX8_rest a1 a2 w = some (r, w_)) : zMi l yX8_rest cX8_rest 3 (some .int) { frames := 2, cells := 0, slots := 0, locals := 42 } D tc lo ad zshM znnM fr zq [.ref (ad 0), .int a1, .int a2] w r w_ := by
  refine zr_entry (by decide) (Nat.le_of_ble_eq_true rfl) fun p e s m args below meth c ls S hX hr hlk hE hl => ?_
  have S : CallFix p m c cX8_rest 3 s args (Cond.code yX8_rest cX8_rest 3 (some .int) :: zw_tb) RX8 := S
  have hx := S.1
  have hb := S.2.1
  have hK := hX.2.1
  have hl : lv_has ls 3 [(0, .ref (ad 0)), (1, .int a1), (2, .int a2)] := hl
  unfold fX8_rest at h
  refine lv_iload_n hx hb dX8_rest_0 rfl (lv_at hl 1 rfl) ?_
  obtain ⟨x10001, w10002, ew10002, h⟩ := zbd2E h
  refine zr_i (zr_runS (As := [.int a1]) S hX hE (kX8_isSlot l D tc lo ad fr zq a1 w x10001 w10002 ew10002) zyX8_isSlot qm_X8_292 ⟨rfl, rfl⟩ ⟨Nat.le_of_ble_eq_true rfl, Nat.le_of_ble_eq_true rfl⟩ rfl hl.1 rfl (Nat.le_of_ble_eq_true rfl) dX8_rest_1 ⟨Nat.zero_le _, Nat.zero_le _⟩) hE (fun H locs hE => ?_)
  refine lv_if_ne (tgt := 10) hx hb dX8_rest_4 (by decide) (fun c10003 => ?_) (fun c10003 => ?_)
  · have h := zif' c10003 h
    refine lv_aload_n hx hb dX8_rest_10 rfl (lv_at hl 0 rfl) ?_
    refine zr_getA S hK hE zcl_X8 (zm_0 w10002) 28 (Nat.le_of_ble_eq_true rfl) (q := 18) rfl qf_X8_63 dX8_rest_11 ?_
    refine lv_iload_n hx hb dX8_rest_14 rfl (lv_at hl 1 rfl) ?_
    obtain ⟨x10004, ex10004, h⟩ := zbdE h
    refine zr_iald S hK hE (zm_18 w10002) dX8_rest_15 ex10004 ?_
    refine lv_if_ne (tgt := 22) hx hb dX8_rest_16 (by decide) (fun c10005 => ?_) (fun c10005 => ?_)
    · have h := zif' c10005 h
      refine lv_aload_n hx hb dX8_rest_22 rfl (lv_at hl 0 rfl) ?_
      refine zr_getA S hK hE zcl_X8 (zm_0 w10002) 28 (Nat.le_of_ble_eq_true rfl) (q := 18) rfl qf_X8_63 dX8_rest_23 ?_
      refine lv_iload_n hx hb dX8_rest_26 rfl (lv_at hl 1 rfl) ?_
      obtain ⟨x10006, ex10006, h⟩ := zbdE h
      refine zr_iald S hK hE (zm_18 w10002) dX8_rest_27 ex10006 ?_
      refine lv_iconst (v := 3) hx hb dX8_rest_28 (by decide) ?_
      refine lv_icmp_eq (tgt := 35) hx hb dX8_rest_29 (by decide) (fun c10007 => ?_) (fun c10007 => ?_)
      · have h := zif c10007 h
        refine lv_iload_n hx hb dX8_rest_35 rfl (lv_at hl 2 rfl) ?_
        refine lv_if_ne (tgt := 44) hx hb dX8_rest_36 (by decide) (fun c10008 => ?_) (fun c10008 => ?_)
        · have h := zif' c10008 h
          refine lv_iload_n hx hb dX8_rest_44 rfl (lv_at hl 2 rfl) ?_
          refine lv_iconst (v := (-1)) hx hb dX8_rest_45 (by decide) ?_
          refine lv_icmp_ne (tgt := 53) hx hb dX8_rest_46 (by decide) (fun c10009 => ?_) (fun c10009 => ?_)
          · have h := zif' c10009 h
            refine lv_aload_n hx hb dX8_rest_53 rfl (lv_at hl 0 rfl) ?_
            refine zr_getA S hK hE zcl_X8 (zm_0 w10002) 29 (Nat.le_of_ble_eq_true rfl) (q := 19) rfl qf_X8_66 dX8_rest_54 ?_
            refine lv_iload_n hx hb dX8_rest_57 rfl (lv_at hl 1 rfl) ?_
            obtain ⟨x10010, ex10010, h⟩ := zbdE h
            refine zr_iald S hK hE (zm_19 w10002) dX8_rest_58 ex10010 ?_
            refine lv_iload_n hx hb dX8_rest_59 rfl (lv_at hl 2 rfl) ?_
            obtain ⟨x10011, ex10011, h⟩ := zbdE h
            refine zr_irem hx hb dX8_rest_60 ex10011 ?_
            exact zr_iret S hE hr hlk h dX8_rest_61
          · have h := zif c10009 h
            refine lv_iconst (v := 0) hx hb dX8_rest_49 (by decide) ?_
            refine lv_goto (tgt := 61) hx hb dX8_rest_50 (by decide) ?_
            exact zr_iret S hE hr hlk h dX8_rest_61
        · have h := zif c10008 h
          refine zr_ldc S qc_X8_154 dX8_rest_39 ?_
          refine lv_goto (tgt := 61) hx hb dX8_rest_41 (by decide) ?_
          exact zr_iret S hE hr hlk h dX8_rest_61
      · have h := zif' c10007 h
        refine zr_ldc S qc_X8_136 dX8_rest_32 ?_
        exact zr_iret S hE hr hlk h dX8_rest_34
    · have h := zif c10005 h
      refine zr_ldc S qc_X8_200 dX8_rest_19 ?_
      exact zr_iret S hE hr hlk h dX8_rest_21
  · have h := zif c10003 h
    refine zr_ldc S qc_X8_97 dX8_rest_7 ?_
    exact zr_iret S hE hr hlk h dX8_rest_9
set_option maxHeartbeats 4000000 in
set_option maxRecDepth 100000 in
theorem kX8_riskAt (l : Launch) (D : va_G) (tc : Nat → ClassId) (lo : Nat) (ad : Nat → Nat) (fr : va_W) (zq : zz_Q) (a1 : Int32) (a2 : Int32) (w : zz_W) (r : Int32) (w_ : zz_W) (h : fX8_riskAt a1 a2 w = some (r, w_)) : zMi l yX8_riskAt cX8_riskAt 3 (some .int) { frames := 4, cells := 0, slots := 0, locals := 91 } D tc lo ad zshM znnM fr zq [.ref (ad 0), .int a1, .int a2] w r w_ := by
  refine zr_entry (by decide) (Nat.le_of_ble_eq_true rfl) fun p e s m args below meth c ls S hX hr hlk hE hl => ?_
  have S : CallFix p m c cX8_riskAt 3 s args (Cond.code yX8_riskAt cX8_riskAt 3 (some .int) :: zw_tb) RX8 := S
  have hx := S.1
  have hb := S.2.1
  have hK := hX.2.1
  have hl : lv_has ls 3 [(0, .ref (ad 0)), (1, .int a1), (2, .int a2)] := hl
  unfold fX8_riskAt at h
  refine lv_aload_n hx hb dX8_riskAt_0 rfl (lv_at hl 0 rfl) ?_
  obtain ⟨w10001, ew10001, h⟩ := zbdE h
  refine zr_v (zr_runV (As := []) S hX hE (kX8_weighsAll l D tc lo ad fr zq w w10001 ew10001) zyX8_weighsAll qm_X8_187 zcl_X8 rfl (zm_0 w) ⟨rfl, rfl⟩ ⟨Nat.le_of_ble_eq_true rfl, Nat.le_of_ble_eq_true rfl⟩ rfl hl.1 rfl (Nat.le_of_ble_eq_true rfl) dX8_riskAt_1 ⟨Nat.zero_le _, Nat.zero_le _⟩) hE (fun H locs hE => ?_)
  refine zr_ldc2 S qd_X8_174 dX8_riskAt_4 ?_
  refine lv_aload_n hx hb dX8_riskAt_7 rfl (lv_at hl 0 rfl) ?_
  refine lv_iload_n hx hb dX8_riskAt_8 rfl (lv_at hl 1 rfl) ?_
  refine lv_iload_n hx hb dX8_riskAt_9 rfl (lv_at hl 2 rfl) ?_
  obtain ⟨x10002, w10003, ew10003, h⟩ := zbd2E h
  refine zr_l (zr_runV (As := [.int a1, .int a2]) S hX hE (kX8_lossAt l D tc lo ad fr zq a1 a2 w10001 x10002 w10003 ew10003) zyX8_lossAt qm_X8_190 zcl_X8 rfl (zm_0 w10001) ⟨rfl, rfl⟩ ⟨Nat.le_of_ble_eq_true rfl, Nat.le_of_ble_eq_true rfl⟩ rfl hl.1 rfl (Nat.le_of_ble_eq_true rfl) dX8_riskAt_10 ⟨Nat.zero_le _, Nat.zero_le _⟩) hE (fun H locs hE => ?_)
  refine lv_lmul hx hb dX8_riskAt_13 ?_
  refine lv_aload_n hx hb dX8_riskAt_14 rfl (lv_at hl 0 rfl) ?_
  refine lv_iconst (v := 4) hx hb dX8_riskAt_15 (by decide) ?_
  obtain ⟨x10004, w10005, ew10005, h⟩ := zbd2E h
  refine zr_i (zr_runV (As := [.int 4]) S hX hE (kX8_sumOf l D tc lo ad fr zq 4 w10003 x10004 w10005 ew10005) zyX8_sumOf qm_X8_151 zcl_X8 rfl (zm_0 w10003) ⟨rfl, rfl⟩ ⟨Nat.le_of_ble_eq_true rfl, Nat.le_of_ble_eq_true rfl⟩ rfl hl.1 rfl (Nat.le_of_ble_eq_true rfl) dX8_riskAt_16 ⟨Nat.zero_le _, Nat.zero_le _⟩) hE (fun H locs hE => ?_)
  refine lv_i2l hx hb dX8_riskAt_19 rfl ?_
  obtain ⟨x10006, ex10006, h⟩ := zbdE h
  refine zr_ldiv hx hb dX8_riskAt_20 ex10006 ?_
  refine lv_l2i hx hb dX8_riskAt_21 rfl ?_
  exact zr_iret S hE hr hlk h dX8_riskAt_22
set_option maxHeartbeats 4000000 in
set_option maxRecDepth 100000 in
theorem kX8_risk (l : Launch) (D : va_G) (tc : Nat → ClassId) (lo : Nat) (ad : Nat → Nat) (fr : va_W) (zq : zz_Q) (a1 : Int32) (a2 : Int32) (w : zz_W) (r : Int32) (w_ : zz_W) (h : fX8_risk a1 a2 w = some (r, w_)) : zMi l yX8_risk cX8_risk 3 (some .int) { frames := 5, cells := 0, slots := 0, locals := 113 } D tc lo ad zshM znnM fr zq [.ref (ad 0), .int a1, .int a2] w r w_ := by
  refine zr_entry (by decide) (Nat.le_of_ble_eq_true rfl) fun p e s m args below meth c ls S hX hr hlk hE hl => ?_
  have S : CallFix p m c cX8_risk 3 s args (Cond.code yX8_risk cX8_risk 3 (some .int) :: zw_tb) RX8 := S
  have hx := S.1
  have hb := S.2.1
  have hK := hX.2.1
  have hl : lv_has ls 3 [(0, .ref (ad 0)), (1, .int a1), (2, .int a2)] := hl
  unfold fX8_risk at h
  refine lv_iload_n hx hb dX8_risk_0 rfl (lv_at hl 1 rfl) ?_
  obtain ⟨x10001, w10002, ew10002, h⟩ := zbd2E h
  refine zr_i (zr_runS (As := [.int a1]) S hX hE (kX8_isCell l D tc lo ad fr zq a1 w x10001 w10002 ew10002) zyX8_isCell qm_X8_89 ⟨rfl, rfl⟩ ⟨Nat.le_of_ble_eq_true rfl, Nat.le_of_ble_eq_true rfl⟩ rfl hl.1 rfl (Nat.le_of_ble_eq_true rfl) dX8_risk_1 ⟨Nat.zero_le _, Nat.zero_le _⟩) hE (fun H locs hE => ?_)
  refine lv_if_eq (tgt := 17) hx hb dX8_risk_4 (by decide) (fun c10003 => ?_) (fun c10003 => ?_)
  · have h := zif c10003 h
    refine zr_ldc S qc_X8_97 dX8_risk_17 ?_
    exact zr_iret S hE hr hlk h dX8_risk_19
  · have h := zif' c10003 h
    refine lv_iload_n hx hb dX8_risk_7 rfl (lv_at hl 2 rfl) ?_
    refine lv_iconst (v := 1) hx hb dX8_risk_8 (by decide) ?_
    refine lv_bipush (v := 9) hx hb dX8_risk_9 (by decide) ?_
    obtain ⟨x10004, w10005, ew10005, h⟩ := zbd2E h
    refine zr_i (zr_runS (As := [.int a2, .int 1, .int 9]) S hX hE (kX8_in l D tc lo ad fr zq a2 1 9 w10002 x10004 w10005 ew10005) zyX8_in qm_X8_81 ⟨rfl, rfl⟩ ⟨Nat.le_of_ble_eq_true rfl, Nat.le_of_ble_eq_true rfl⟩ rfl hl.1 rfl (Nat.le_of_ble_eq_true rfl) dX8_risk_11 ⟨Nat.zero_le _, Nat.zero_le _⟩) hE (fun H locs hE => ?_)
    refine lv_if_ne (tgt := 20) hx hb dX8_risk_14 (by decide) (fun c10006 => ?_) (fun c10006 => ?_)
    · have h := zif' c10006 h
      refine lv_aload_n hx hb dX8_risk_20 rfl (lv_at hl 0 rfl) ?_
      refine zr_getA S hK hE zcl_X8 (zm_0 w10005) 0 (Nat.le_of_ble_eq_true rfl) (q := 1) rfl qf_X8_9 dX8_risk_21 ?_
      refine lv_iconst (v := 1) hx hb dX8_risk_24 (by decide) ?_
      obtain ⟨x10007, ex10007, h⟩ := zbdE h
      refine zr_iald S hK hE (zm_1 w10005) dX8_risk_25 ex10007 ?_
      refine lv_if_ne (tgt := 34) hx hb dX8_risk_26 (by decide) (fun c10008 => ?_) (fun c10008 => ?_)
      · have h := zif' c10008 h
        refine lv_aload_n hx hb dX8_risk_34 rfl (lv_at hl 0 rfl) ?_
        refine lv_iload_n hx hb dX8_risk_35 rfl (lv_at hl 1 rfl) ?_
        refine lv_iload_n hx hb dX8_risk_36 rfl (lv_at hl 2 rfl) ?_
        obtain ⟨x10009, w10010, ew10010, h⟩ := zbd2E h
        refine zr_i (zr_runV (As := [.int a1, .int a2]) S hX hE (kX8_riskAt l D tc lo ad fr zq a1 a2 w10005 x10009 w10010 ew10010) zyX8_riskAt qm_X8_194 zcl_X8 rfl (zm_0 w10005) ⟨rfl, rfl⟩ ⟨Nat.le_of_ble_eq_true rfl, Nat.le_of_ble_eq_true rfl⟩ rfl hl.1 rfl (Nat.le_of_ble_eq_true rfl) dX8_risk_37 ⟨Nat.zero_le _, Nat.zero_le _⟩) hE (fun H locs hE => ?_)
        exact zr_iret S hE hr hlk h dX8_risk_40
      · have h := zif c10008 h
        refine zr_ldc S qc_X8_176 dX8_risk_29 ?_
        refine lv_goto (tgt := 40) hx hb dX8_risk_31 (by decide) ?_
        exact zr_iret S hE hr hlk h dX8_risk_40
    · have h := zif c10006 h
      refine zr_ldc S qc_X8_97 dX8_risk_17 ?_
      exact zr_iret S hE hr hlk h dX8_risk_19
set_option maxHeartbeats 4000000 in
set_option maxRecDepth 100000 in
theorem kX8_rule (l : Launch) (D : va_G) (tc : Nat → ClassId) (lo : Nat) (ad : Nat → Nat) (fr : va_W) (zq : zz_Q) (a1 : Int32) (a2 : Int32) (w : zz_W) (r : Int32) (w_ : zz_W) (h : fX8_rule a1 a2 w = some (r, w_)) : zMi l yX8_rule cX8_rule 3 (some .int) { frames := 1, cells := 0, slots := 0, locals := 23 } D tc lo ad zshM znnM fr zq [.ref (ad 0), .int a1, .int a2] w r w_ := by
  refine zr_entry (by decide) (Nat.le_of_ble_eq_true rfl) fun p e s m args below meth c ls S hX hr hlk hE hl => ?_
  have S : CallFix p m c cX8_rule 3 s args (Cond.code yX8_rule cX8_rule 3 (some .int) :: zw_tb) RX8 := S
  have hx := S.1
  have hb := S.2.1
  have hK := hX.2.1
  have hl : lv_has ls 3 [(0, .ref (ad 0)), (1, .int a1), (2, .int a2)] := hl
  unfold fX8_rule at h
  have J21 : ∀ (l1 : Int32) (l2 : Int32) (s0 : Int32) (s1 : Int32) (s2 : Int32) (w : zz_W) (ls : Array Slot) (H : Heap) (locs : List Loc), fX8_rule_21 a1 a2 l1 l2 s0 s1 s2 w = some (r, w_) → lv_has ls 3 [(0, .ref (ad 0)), (1, .int l1), (2, .int l2)] → zE D tc lo ad zshM znnM fr w s.heap H locs → W p l e { frames := 1, cells := 0, slots := 0, locals := 23 } s m args below meth c H locs 0 0 (zZi D tc lo ad zshM znnM fr below args s r w_) (F0 m 21 ls [.int s2, .int s1, .int s0]) := by
    intro l1 l2 s0 s1 s2 w ls H locs h hl hE
    unfold fX8_rule_21 at h
    obtain ⟨x19, w20, ew20, h⟩ := zbd2E h
    refine zr_i (zr_runS (As := [.int s0, .int s1, .int s2]) S hX hE (kX8_in l D tc lo ad fr zq s0 s1 s2 w x19 w20 ew20) zyX8_in qm_X8_81 ⟨rfl, rfl⟩ ⟨Nat.le_of_ble_eq_true rfl, Nat.le_of_ble_eq_true rfl⟩ rfl hl.1 rfl (Nat.le_of_ble_eq_true rfl) dX8_rule_21 ⟨Nat.zero_le _, Nat.zero_le _⟩) hE (fun H locs hE => ?_)
    refine lv_if_eq (tgt := 38) hx hb dX8_rule_24 (by decide) (fun c21 => ?_) (fun c21 => ?_)
    · have h := zif c21 h
      refine zr_ldc S qc_X8_97 dX8_rule_38 ?_
      exact zr_iret S hE hr hlk h dX8_rule_40
    · have h := zif' c21 h
      refine lv_aload_n hx hb dX8_rule_27 rfl (lv_at hl 0 rfl) ?_
      refine lv_iconst (v := 3) hx hb dX8_rule_28 (by decide) ?_
      refine lv_iload_n hx hb dX8_rule_29 rfl (lv_at hl 1 rfl) ?_
      refine lv_iadd hx hb dX8_rule_30 ?_
      refine lv_iload_n hx hb dX8_rule_31 rfl (lv_at hl 2 rfl) ?_
      obtain ⟨x22, w23, ew23, h⟩ := zbd2E h
      refine zr_i (zr_runV (As := [.int (3 + l1), .int l2]) S hX hE (kX8_becomes l D tc lo ad fr zq (3 + l1) l2 w20 x22 w23 ew23) zyX8_becomes qm_X8_137 zcl_X8 rfl (zm_0 w20) ⟨rfl, rfl⟩ ⟨Nat.le_of_ble_eq_true rfl, Nat.le_of_ble_eq_true rfl⟩ rfl hl.1 rfl (Nat.le_of_ble_eq_true rfl) dX8_rule_32 ⟨Nat.zero_le _, Nat.zero_le _⟩) hE (fun H locs hE => ?_)
      refine lv_goto (tgt := 40) hx hb dX8_rule_35 (by decide) ?_
      exact zr_iret S hE hr hlk h dX8_rule_40
  refine lv_iload_n hx hb dX8_rule_0 rfl (lv_at hl 1 rfl) ?_
  refine lv_iconst (v := 0) hx hb dX8_rule_1 (by decide) ?_
  refine lv_iconst (v := 1) hx hb dX8_rule_2 (by decide) ?_
  obtain ⟨x10001, w10002, ew10002, h⟩ := zbd2E h
  refine zr_i (zr_runS (As := [.int a1, .int 0, .int 1]) S hX hE (kX8_in l D tc lo ad fr zq a1 0 1 w x10001 w10002 ew10002) zyX8_in qm_X8_81 ⟨rfl, rfl⟩ ⟨Nat.le_of_ble_eq_true rfl, Nat.le_of_ble_eq_true rfl⟩ rfl hl.1 rfl (Nat.le_of_ble_eq_true rfl) dX8_rule_3 ⟨Nat.zero_le _, Nat.zero_le _⟩) hE (fun H locs hE => ?_)
  refine lv_if_eq (tgt := 38) hx hb dX8_rule_6 (by decide) (fun c10003 => ?_) (fun c10003 => ?_)
  · have h := zif c10003 h
    refine zr_ldc S qc_X8_97 dX8_rule_38 ?_
    exact zr_iret S hE hr hlk h dX8_rule_40
  · have h := zif' c10003 h
    refine lv_iload_n hx hb dX8_rule_9 rfl (lv_at hl 2 rfl) ?_
    refine lv_iconst (v := 0) hx hb dX8_rule_10 (by decide) ?_
    refine lv_iload_n hx hb dX8_rule_11 rfl (lv_at hl 1 rfl) ?_
    refine lv_if_ne (tgt := 20) hx hb dX8_rule_12 (by decide) (fun c10004 => ?_) (fun c10004 => ?_)
    · have h := zif' c10004 h
      refine lv_iconst (v := 1) hx hb dX8_rule_20 (by decide) ?_
      exact J21 a1 a2 a2 0 1 w10002 ls _ _ h (lv_sub hl [0, 1, 2] rfl) hE
    · have h := zif c10004 h
      refine lv_bipush (v := 49) hx hb dX8_rule_15 (by decide) ?_
      refine lv_goto (tgt := 21) hx hb dX8_rule_17 (by decide) ?_
      exact J21 a1 a2 a2 0 49 w10002 ls _ _ h (lv_sub hl [0, 1, 2] rfl) hE
