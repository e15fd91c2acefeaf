set_option maxHeartbeats 4000000 in
set_option maxRecDepth 100000 in
theorem kJ3_checkIndex_8e157 (l : Launch) (D : va_G) (tc : Nat → ClassId) (lo : Nat) (ad : Nat → Nat) (fr : va_W) (zq : zz_Q) (oa3 : Option Nat) (a1 : Int32) (a2 : Int32) (w : zz_W) (r : Int32) (w_ : zz_W) (h : fJ3_checkIndex_8e157 a1 a2 w = some (r, w_)) : zMi l yJ3_checkIndex_8e157 cJ3_checkIndex_8e157 3 (some .int) { frames := 0, cells := 0, slots := 0, locals := 0 } D tc lo ad zshC znnC fr zq [.int a1, .int a2, va_rf oa3] w r w_ := by
  cases oa3
  all_goals
    refine zr_entry (by decide) (Nat.le_of_ble_eq_true rfl) fun p e s m args below meth c ls S hX hr hlk hE hl => ?_
    have S : CallFix p m c cJ3_checkIndex_8e157 3 s args (Cond.code yJ3_checkIndex_8e157 cJ3_checkIndex_8e157 3 (some .int) :: zw_tb) RJ3 := S
    have hx := S.1
    have hb := S.2.1
    have hK := hX.2.1
    have hl : lv_has ls 3 [(0, .int a1), (1, .int a2)] := lv_sub hl [0, 1] rfl
    unfold fJ3_checkIndex_8e157 at h
    have J9 : ∀ (l0 : Int32) (l1 : Int32) (w : zz_W) (ls : Array Slot) (H : Heap) (locs : List Loc), fJ3_checkIndex_8e157_9 a1 a2 l0 l1 w = some (r, w_) → lv_has ls 3 [(0, .int l0), (1, .int l1)] → zE D tc lo ad zshC znnC fr w s.heap H locs → W p l e { frames := 0, cells := 0, slots := 0, locals := 0 } s m args below meth c H locs 0 0 (zZi D tc lo ad zshC znnC fr below args s r w_) (F0 m 9 ls []) := by
      intro l0 l1 w ls H locs h hl hE
      unfold fJ3_checkIndex_8e157_9 at h
      cases h
    refine lv_iload_n hx hb dJ3_checkIndex_8e157_0 rfl (lv_at hl 0 rfl) ?_
    refine lv_if_lt (tgt := 9) hx hb dJ3_checkIndex_8e157_1 (by decide) (fun c10001 => ?_) (fun c10001 => ?_)
    · have h := zif c10001 h
      exact J9 a1 a2 w ls _ _ h (lv_sub hl [0, 1] rfl) hE
    · have h := zif' c10001 h
      refine lv_iload_n hx hb dJ3_checkIndex_8e157_4 rfl (lv_at hl 0 rfl) ?_
      refine lv_iload_n hx hb dJ3_checkIndex_8e157_5 rfl (lv_at hl 1 rfl) ?_
      refine lv_icmp_lt (tgt := 16) hx hb dJ3_checkIndex_8e157_6 (by decide) (fun c10002 => ?_) (fun c10002 => ?_)
      · have h := zif c10002 h
        refine lv_iload_n hx hb dJ3_checkIndex_8e157_16 rfl (lv_at hl 0 rfl) ?_
        exact zr_iret S hE hr hlk h dJ3_checkIndex_8e157_17
      · have h := zif' c10002 h
        exact J9 a1 a2 w ls _ _ h (lv_sub hl [0, 1] rfl) hE
set_option maxHeartbeats 4000000 in
set_option maxRecDepth 100000 in
theorem kJ0_checkIndex_df160 (l : Launch) (D : va_G) (tc : Nat → ClassId) (lo : Nat) (ad : Nat → Nat) (fr : va_W) (zq : zz_Q) (a1 : Int32) (a2 : Int32) (w : zz_W) (w_ : zz_W) (h : fJ0_checkIndex_df160 a1 a2 w = some w_) : zMv l yJ0_checkIndex_df160 cJ0_checkIndex_df160 2 none { frames := 1, cells := 0, slots := 0, locals := 22 } D tc lo ad zshC znnC fr zq [.int a1, .int a2] w w_ := by
  refine zr_entry (by decide) (Nat.le_of_ble_eq_true rfl) fun p e s m args below meth c ls S hX hr hlk hE hl => ?_
  have S : CallFix p m c cJ0_checkIndex_df160 2 s args (Cond.code yJ0_checkIndex_df160 cJ0_checkIndex_df160 2 none :: zw_tb) RJ0 := S
  have hx := S.1
  have hb := S.2.1
  have hK := hX.2.1
  have hl : lv_has ls 2 [(0, .int a1), (1, .int a2)] := hl
  unfold fJ0_checkIndex_df160 at h
  refine lv_iload_n hx hb dJ0_checkIndex_df160_0 rfl (lv_at hl 0 rfl) ?_
  refine lv_iload_n hx hb dJ0_checkIndex_df160_1 rfl (lv_at hl 1 rfl) ?_
  refine zr_sFORM S hX hE qf_J0_1053 dJ0_checkIndex_df160_2 (fun o10001 => ?_)
  obtain ⟨x10002, w10003, ew10003, h⟩ := zbd2E h
  refine zr_i (zr_runS (As := [.int a1, .int a2, va_rf o10001]) S hX hE (kJ3_checkIndex_8e157 l D tc lo ad fr zq o10001 a1 a2 w x10002 w10003 ew10003) zyJ3_checkIndex_8e157 qm_J0_1059 ⟨rfl, rfl⟩ ⟨Nat.le_of_ble_eq_true rfl, Nat.le_of_ble_eq_true rfl⟩ rfl hl.1 rfl (Nat.le_of_ble_eq_true rfl) dJ0_checkIndex_df160_5 ⟨Nat.zero_le _, Nat.zero_le _⟩) hE (fun H locs hE => ?_)
  refine lv_pop hx hb dJ0_checkIndex_df160_8 rfl ?_
  exact zr_vret S hE hr hlk h dJ0_checkIndex_df160_9
set_option maxHeartbeats 4000000 in
set_option maxRecDepth 100000 in
theorem kJ1_charAt_3b067 (l : Launch) (D : va_G) (tc : Nat → ClassId) (lo : Nat) (ad : Nat → Nat) (fr : va_W) (zq : zz_Q) (a1 : Nat) (a2 : Int32) (w : zz_W) (r : Int32) (w_ : zz_W) (h : fJ1_charAt_3b067 a1 a2 w = some (r, w_)) : zMi l yJ1_charAt_3b067 cJ1_charAt_3b067 2 (some .char) { frames := 2, cells := 0, slots := 0, locals := 43 } D tc lo ad zshC znnC fr zq [.ref (zq.2.1 a1), .int a2] w r w_ := by
  refine zr_entry (by decide) (Nat.le_of_ble_eq_true rfl) fun p e s m args below meth c ls S hX hr hlk hE hl => ?_
  have S : CallFix p m c cJ1_charAt_3b067 2 s args (Cond.code yJ1_charAt_3b067 cJ1_charAt_3b067 2 (some .char) :: zw_tb) RJ1 := S
  have hx := S.1
  have hb := S.2.1
  have hK := hX.2.1
  have hl : lv_has ls 2 [(0, .ref (zq.2.1 a1)), (1, .int a2)] := hl
  unfold fJ1_charAt_3b067 at h
  obtain ⟨hga1, h⟩ := zgrdE h
  refine lv_iload_n hx hb dJ1_charAt_3b067_0 rfl (lv_at hl 1 rfl) ?_
  refine lv_aload_n hx hb dJ1_charAt_3b067_1 rfl (lv_at hl 0 rfl) ?_
  refine zr_strL S hX hE (i := a1) (of_decide_eq_true hga1) dJ1_charAt_3b067_2 ?_
  obtain ⟨w10001, ew10001, h⟩ := zbdE h
  refine zr_v (zr_runS (As := [.int a2, .int (Int32.ofNat (zlen.getD a1 0))]) S hX hE (kJ0_checkIndex_df160 l D tc lo ad fr zq a2 (Int32.ofNat (zlen.getD a1 0)) w w10001 ew10001) zyJ0_checkIndex_df160 qm_J1_9 ⟨rfl, rfl⟩ ⟨Nat.le_of_ble_eq_true rfl, Nat.le_of_ble_eq_true rfl⟩ rfl hl.1 rfl (Nat.le_of_ble_eq_true rfl) dJ1_charAt_3b067_3 ⟨Nat.zero_le _, Nat.zero_le _⟩) hE (fun H locs hE => ?_)
  refine lv_aload_n hx hb dJ1_charAt_3b067_6 rfl (lv_at hl 0 rfl) ?_
  refine lv_iload_n hx hb dJ1_charAt_3b067_7 rfl (lv_at hl 1 rfl) ?_
  obtain ⟨x10002, ex10002, h⟩ := zbdE h
  refine zr_strB S hX hE (of_decide_eq_true hga1) dJ1_charAt_3b067_8 ex10002 ?_
  refine lv_sipush (v := 255) hx hb dJ1_charAt_3b067_9 (by decide) ?_
  refine lv_iand hx hb dJ1_charAt_3b067_12 ?_
  refine lv_i2c hx hb dJ1_charAt_3b067_13 rfl ?_
  obtain ⟨x10003, ex10003, h⟩ := zbdE h
  obtain ⟨ezx10003, enx10003⟩ := zfit_char ex10003
  refine zr_topi (congrArg some ezx10003) ?_
  exact zr_zret S hE hr hlk enx10003 h dJ1_charAt_3b067_14
set_option maxHeartbeats 4000000 in
set_option maxRecDepth 100000 in
theorem kJ0_charAt_5068e (l : Launch) (D : va_G) (tc : Nat → ClassId) (lo : Nat) (ad : Nat → Nat) (fr : va_W) (zq : zz_Q) (i : Nat) (a1 : Int32) (w : zz_W) (r : Int32) (w_ : zz_W) (h : fJ0_charAt_5068e i a1 w = some (r, w_)) : zMi l yJ0_charAt_5068e cJ0_charAt_5068e 2 (some .char) { frames := 3, cells := 0, slots := 0, locals := 64 } D tc lo ad zshC znnC fr zq [.ref (zq.1 i), .int a1] w r w_ := by
  refine zr_entry (by decide) (Nat.le_of_ble_eq_true rfl) fun p e s m args below meth c ls S hX hr hlk hE hl => ?_
  have S : CallFix p m c cJ0_charAt_5068e 2 s args (Cond.code yJ0_charAt_5068e cJ0_charAt_5068e 2 (some .char) :: zw_tb) RJ0 := S
  have hx := S.1
  have hb := S.2.1
  have hK := hX.2.1
  have hl : lv_has ls 2 [(0, .ref (zq.1 i)), (1, .int a1)] := hl
  unfold fJ0_charAt_5068e at h
  obtain ⟨hgi, h⟩ := zgrdE h
  refine lv_aload_n hx hb dJ0_charAt_5068e_0 rfl (lv_at hl 0 rfl) ?_
  obtain ⟨x10001, w10002, ew10002, h⟩ := zbd2E h
  refine zr_i (zr_runVS (As := []) S hX hE (kJ0_isLatin1_aae02 l D tc lo ad fr zq i w x10001 w10002 ew10002) zyJ0_isLatin1_aae02 qm_J0_492 rfl (of_decide_eq_true hgi) ⟨rfl, rfl⟩ ⟨Nat.le_of_ble_eq_true rfl, Nat.le_of_ble_eq_true rfl⟩ rfl hl.1 rfl (Nat.le_of_ble_eq_true rfl) dJ0_charAt_5068e_1 ⟨Nat.zero_le _, Nat.zero_le _⟩) hE (fun H locs hE => ?_)
  refine lv_if_eq (tgt := 16) hx hb dJ0_charAt_5068e_4 (by decide) (fun c10003 => ?_) (fun c10003 => ?_)
  · have h := zif c10003 h
    refine lv_aload_n hx hb dJ0_charAt_5068e_16 rfl (lv_at hl 0 rfl) ?_
    refine zr_strV S hX hE (i := i) (of_decide_eq_true hgi) qf_J0_9 dJ0_charAt_5068e_17 ?_
    refine lv_iload_n hx hb dJ0_charAt_5068e_20 rfl (lv_at hl 1 rfl) ?_
    cases h
  · have h := zif' c10003 h
    refine lv_aload_n hx hb dJ0_charAt_5068e_7 rfl (lv_at hl 0 rfl) ?_
    refine zr_strV S hX hE (i := i) (of_decide_eq_true hgi) qf_J0_9 dJ0_charAt_5068e_8 ?_
    refine lv_iload_n hx hb dJ0_charAt_5068e_11 rfl (lv_at hl 1 rfl) ?_
    obtain ⟨x10004, w10005, ew10005, h⟩ := zbd2E h
    refine zr_i (zr_runS (As := [.ref (zq.2.1 i), .int a1]) S hX hE (kJ1_charAt_3b067 l D tc lo ad fr zq i a1 w10002 x10004 w10005 ew10005) zyJ1_charAt_3b067 qm_J0_495 ⟨rfl, rfl⟩ ⟨Nat.le_of_ble_eq_true rfl, Nat.le_of_ble_eq_true rfl⟩ rfl hl.1 rfl (Nat.le_of_ble_eq_true rfl) dJ0_charAt_5068e_12 ⟨Nat.zero_le _, Nat.zero_le _⟩) hE (fun H locs hE => ?_)
    obtain ⟨x10006, ex10006, h⟩ := zbdE h
    obtain ⟨ezx10006, enx10006⟩ := zfit_char ex10006
    refine zr_topi (congrArg some ezx10006) ?_
    exact zr_zret S hE hr hlk enx10006 h dJ0_charAt_5068e_15
set_option maxHeartbeats 4000000 in
set_option maxRecDepth 100000 in
theorem kX4_wordIs (l : Launch) (D : va_G) (tc : Nat → ClassId) (lo : Nat) (ad : Nat → Nat) (fr : va_W) (zq : zz_Q) (a1 : Nat) (w : zz_W) (r : Int32) (w_ : zz_W) (h : fX4_wordIs a1 w = some (r, w_)) : zMi l yX4_wordIs cX4_wordIs 3 (some .boolean) { frames := 4, cells := 0, slots := 0, locals := 85 } D tc lo ad zshC znnC fr zq [.ref (ad 36), .ref (zq.1 a1)] w r w_ := by
  refine zr_entry (by decide) (Nat.le_of_ble_eq_true rfl) fun p e s m args below meth c ls S hX hr hlk hE hl => ?_
  have S : CallFix p m c cX4_wordIs 3 s args (Cond.code yX4_wordIs cX4_wordIs 3 (some .boolean) :: zw_tb) RX4 := S
  have hx := S.1
  have hb := S.2.1
  have hK := hX.2.1
  have hl : lv_has ls 3 [(0, .ref (ad 36)), (1, .ref (zq.1 a1))] := hl
  unfold fX4_wordIs at h
  obtain ⟨hga1, h⟩ := zgrdE h
  have L28 : ∀ (n : Nat) (l2 : Int32) (w : zz_W) (ls : Array Slot) (H : Heap) (locs : List Loc), fX4_wordIs_28 a1 n l2 w = some (r, w_) → lv_has ls 3 [(0, .ref (ad 36)), (1, .ref (zq.1 a1)), (2, .int l2)] → zE D tc lo ad zshC znnC fr w s.heap H locs → W p l e { frames := 4, cells := 0, slots := 0, locals := 85 } s m args below meth c H locs 0 0 (zZi D tc lo ad zshC znnC fr below args s r w_) (F0 m 28 ls []) := by
    intro n28
    induction n28 with
    | zero => intro l2 w ls H locs h hl hE; rw [fX4_wordIs_28] at h; cases h
    | succ n28 ih28 =>
      intro l2 w ls H locs h hl hE
      rw [fX4_wordIs_28] at h
      refine lv_iload_n hx hb dX4_wordIs_28 rfl (lv_at hl 2 rfl) ?_
      refine lv_aload_n hx hb dX4_wordIs_29 rfl (lv_at hl 1 rfl) ?_
      obtain ⟨x33, w34, ew34, h⟩ := zbd2E h
      refine zr_i (zr_runVS (As := []) S hX hE (kJ0_length_8abf5 l D tc lo ad fr zq a1 w x33 w34 ew34) zyJ0_length_8abf5 qm_X4_92 rfl (of_decide_eq_true hga1) ⟨rfl, rfl⟩ ⟨Nat.le_of_ble_eq_true rfl, Nat.le_of_ble_eq_true rfl⟩ rfl hl.1 rfl (Nat.le_of_ble_eq_true rfl) dX4_wordIs_30 ⟨Nat.zero_le _, Nat.zero_le _⟩) hE (fun H locs hE => ?_)
      refine lv_icmp_ge (tgt := 63) hx hb dX4_wordIs_33 (by decide) (fun c35 => ?_) (fun c35 => ?_)
      · have h := zif c35 h
        refine lv_iconst (v := 1) hx hb dX4_wordIs_63 (by decide) ?_
        exact zr_zret S hE hr hlk (by decide) h dX4_wordIs_64
      · have h := zif' c35 h
        refine lv_aload_n hx hb dX4_wordIs_36 rfl (lv_at hl 0 rfl) ?_
        refine zr_getA S hK hE zcl_X4 (zc_36 w34) 1 (Nat.le_of_ble_eq_true rfl) (q := 37) rfl qf_X4_9 dX4_wordIs_37 ?_
        refine lv_aload_n hx hb dX4_wordIs_40 rfl (lv_at hl 0 rfl) ?_
        obtain ⟨x36, ex36, h⟩ := zbdE h
        refine zr_getI S hK hE zcl_X4 (zc_36 w34) 3 (Nat.le_of_ble_eq_true rfl) rfl qf_X4_69 dX4_wordIs_41 ex36 ?_
        refine lv_iload_n hx hb dX4_wordIs_44 rfl (lv_at hl 2 rfl) ?_
        refine lv_iadd hx hb dX4_wordIs_45 ?_
        obtain ⟨x37, ex37, h⟩ := zbdE h
        refine zr_iald S hK hE (zc_37 w34) dX4_wordIs_46 ex37 ?_
        refine lv_aload_n hx hb dX4_wordIs_47 rfl (lv_at hl 1 rfl) ?_
        refine lv_iload_n hx hb dX4_wordIs_48 rfl (lv_at hl 2 rfl) ?_
        obtain ⟨x38, w39, ew39, h⟩ := zbd2E h
        refine zr_i (zr_runVS (As := [.int l2]) S hX hE (kJ0_charAt_5068e l D tc lo ad fr zq a1 l2 w34 x38 w39 ew39) zyJ0_charAt_5068e qm_X4_96 rfl (of_decide_eq_true hga1) ⟨rfl, rfl⟩ ⟨Nat.le_of_ble_eq_true rfl, Nat.le_of_ble_eq_true rfl⟩ rfl hl.1 rfl (Nat.le_of_ble_eq_true rfl) dX4_wordIs_49 ⟨Nat.zero_le _, Nat.zero_le _⟩) hE (fun H locs hE => ?_)
        refine lv_icmp_eq (tgt := 57) hx hb dX4_wordIs_52 (by decide) (fun c40 => ?_) (fun c40 => ?_)
        · have h := zif c40 h
          obtain ⟨x41, ex41, h⟩ := zbdE h
          refine lv_iinc (v := x41) (lv' := [(2, .int x41), (0, .ref (ad 36)), (1, .ref (zq.1 a1))]) hx hb dX4_wordIs_57 hl (k := 2) rfl (zinc (k := 1) (by decide) ex41) (by decide) rfl (fun ls hl => ?_)
          refine lv_goto (tgt := 28) hx hb dX4_wordIs_60 (by decide) ?_
          exact ih28 x41 w39 ls _ _ h (lv_sub hl [1, 2, 0] rfl) hE
        · have h := zif' c40 h
          refine lv_iconst (v := 0) hx hb dX4_wordIs_55 (by decide) ?_
          exact zr_zret S hE hr hlk (by decide) h dX4_wordIs_56
  refine lv_aload_n hx hb dX4_wordIs_0 rfl (lv_at hl 0 rfl) ?_
  obtain ⟨x10001, ex10001, h⟩ := zbdE h
  refine zr_getI S hK hE zcl_X4 (zc_36 w) 5 (Nat.le_of_ble_eq_true rfl) rfl qf_X4_25 dX4_wordIs_1 ex10001 ?_
  refine lv_iconst (v := 1) hx hb dX4_wordIs_4 (by decide) ?_
  refine lv_icmp_ne (tgt := 24) hx hb dX4_wordIs_5 (by decide) (fun c10002 => ?_) (fun c10002 => ?_)
  · have h := zif' c10002 h
    refine lv_iconst (v := 0) hx hb dX4_wordIs_24 (by decide) ?_
    exact zr_zret S hE hr hlk (by decide) h dX4_wordIs_25
  · have h := zif c10002 h
    refine lv_aload_n hx hb dX4_wordIs_8 rfl (lv_at hl 0 rfl) ?_
    obtain ⟨x10003, ex10003, h⟩ := zbdE h
    refine zr_getI S hK hE zcl_X4 (zc_36 w) 4 (Nat.le_of_ble_eq_true rfl) rfl qf_X4_22 dX4_wordIs_9 ex10003 ?_
    refine lv_aload_n hx hb dX4_wordIs_12 rfl (lv_at hl 0 rfl) ?_
    obtain ⟨x10004, ex10004, h⟩ := zbdE h
    refine zr_getI S hK hE zcl_X4 (zc_36 w) 3 (Nat.le_of_ble_eq_true rfl) rfl qf_X4_69 dX4_wordIs_13 ex10004 ?_
    refine lv_isub hx hb dX4_wordIs_16 ?_
    refine lv_aload_n hx hb dX4_wordIs_17 rfl (lv_at hl 1 rfl) ?_
    obtain ⟨x10005, w10006, ew10006, h⟩ := zbd2E h
    refine zr_i (zr_runVS (As := []) S hX hE (kJ0_length_8abf5 l D tc lo ad fr zq a1 w x10005 w10006 ew10006) zyJ0_length_8abf5 qm_X4_92 rfl (of_decide_eq_true hga1) ⟨rfl, rfl⟩ ⟨Nat.le_of_ble_eq_true rfl, Nat.le_of_ble_eq_true rfl⟩ rfl hl.1 rfl (Nat.le_of_ble_eq_true rfl) dX4_wordIs_18 ⟨Nat.zero_le _, Nat.zero_le _⟩) hE (fun H locs hE => ?_)
    refine lv_icmp_eq (tgt := 26) hx hb dX4_wordIs_21 (by decide) (fun c10007 => ?_) (fun c10007 => ?_)
    · have h := zif c10007 h
      refine lv_iconst (v := 0) hx hb dX4_wordIs_26 (by decide) ?_
      refine lv_istore_n (lv' := [(2, .int 0), (0, .ref (ad 36)), (1, .ref (zq.1 a1))]) hx hb dX4_wordIs_27 rfl hl (by decide) rfl (fun ls hl => ?_)
      exact L28 zfuel 0 w10006 ls _ _ h (lv_sub hl [1, 2, 0] rfl) hE
    · have h := zif' c10007 h
      refine lv_iconst (v := 0) hx hb dX4_wordIs_24 (by decide) ?_
      exact zr_zret S hE hr hlk (by decide) h dX4_wordIs_25
set_option maxHeartbeats 4000000 in
set_option maxRecDepth 100000 in
theorem kX4_keyHere (l : Launch) (D : va_G) (tc : Nat → ClassId) (lo : Nat) (ad : Nat → Nat) (fr : va_W) (zq : zz_Q) (w : zz_W) (r : Int32) (w_ : zz_W) (h : fX4_keyHere w = some (r, w_)) : zMi l yX4_keyHere cX4_keyHere 1 (some .int) { frames := 5, cells := 0, slots := 0, locals := 107 } D tc lo ad zshC znnC fr zq [.ref (ad 36)] w r w_ := by
  refine zr_entry (by decide) (Nat.le_of_ble_eq_true rfl) fun p e s m args below meth c ls S hX hr hlk hE hl => ?_
  have S : CallFix p m c cX4_keyHere 1 s args (Cond.code yX4_keyHere cX4_keyHere 1 (some .int) :: zw_tb) RX4 := S
  have hx := S.1
  have hb := S.2.1
  have hK := hX.2.1
  have hl : lv_has ls 1 [(0, .ref (ad 36))] := hl
  unfold fX4_keyHere at h
  refine lv_aload_n hx hb dX4_keyHere_0 rfl (lv_at hl 0 rfl) ?_
  refine zr_ldcS S hX (i := 0) (by decide) dX4_keyHere_1 ?_
  obtain ⟨x10001, w10002, ew10002, h⟩ := zbd2E h
  refine zr_i (zr_runV (As := [.ref (zq.1 0)]) S hX hE (kX4_wordIs l D tc lo ad fr zq 0 w x10001 w10002 ew10002) zyX4_wordIs qm_X4_84 zcl_X4 rfl (zc_36 w) ⟨rfl, rfl⟩ ⟨Nat.le_of_ble_eq_true rfl, Nat.le_of_ble_eq_true rfl⟩ rfl hl.1 rfl (Nat.le_of_ble_eq_true rfl) dX4_keyHere_3 ⟨Nat.zero_le _, Nat.zero_le _⟩) hE (fun H locs hE => ?_)
  refine lv_if_eq (tgt := 11) hx hb dX4_keyHere_6 (by decide) (fun c10003 => ?_) (fun c10003 => ?_)
  · have h := zif c10003 h
    refine lv_aload_n hx hb dX4_keyHere_11 rfl (lv_at hl 0 rfl) ?_
    refine zr_ldcS S hX (i := 1) (by decide) dX4_keyHere_12 ?_
    obtain ⟨x10004, w10005, ew10005, h⟩ := zbd2E h
    refine zr_i (zr_runV (As := [.ref (zq.1 1)]) S hX hE (kX4_wordIs l D tc lo ad fr zq 1 w10002 x10004 w10005 ew10005) zyX4_wordIs qm_X4_84 zcl_X4 rfl (zc_36 w10002) ⟨rfl, rfl⟩ ⟨Nat.le_of_ble_eq_true rfl, Nat.le_of_ble_eq_true rfl⟩ rfl hl.1 rfl (Nat.le_of_ble_eq_true rfl) dX4_keyHere_14 ⟨Nat.zero_le _, Nat.zero_le _⟩) hE (fun H locs hE => ?_)
    refine lv_if_eq (tgt := 22) hx hb dX4_keyHere_17 (by decide) (fun c10006 => ?_) (fun c10006 => ?_)
    · have h := zif c10006 h
      refine lv_aload_n hx hb dX4_keyHere_22 rfl (lv_at hl 0 rfl) ?_
      refine zr_ldcS S hX (i := 2) (by decide) dX4_keyHere_23 ?_
      obtain ⟨x10007, w10008, ew10008, h⟩ := zbd2E h
      refine zr_i (zr_runV (As := [.ref (zq.1 2)]) S hX hE (kX4_wordIs l D tc lo ad fr zq 2 w10005 x10007 w10008 ew10008) zyX4_wordIs qm_X4_84 zcl_X4 rfl (zc_36 w10005) ⟨rfl, rfl⟩ ⟨Nat.le_of_ble_eq_true rfl, Nat.le_of_ble_eq_true rfl⟩ rfl hl.1 rfl (Nat.le_of_ble_eq_true rfl) dX4_keyHere_25 ⟨Nat.zero_le _, Nat.zero_le _⟩) hE (fun H locs hE => ?_)
      refine lv_if_eq (tgt := 35) hx hb dX4_keyHere_28 (by decide) (fun c10009 => ?_) (fun c10009 => ?_)
      · have h := zif c10009 h
        refine lv_iconst (v := (-1)) hx hb dX4_keyHere_35 (by decide) ?_
        exact zr_iret S hE hr hlk h dX4_keyHere_36
      · have h := zif' c10009 h
        refine lv_iconst (v := 2) hx hb dX4_keyHere_31 (by decide) ?_
        refine lv_goto (tgt := 36) hx hb dX4_keyHere_32 (by decide) ?_
        exact zr_iret S hE hr hlk h dX4_keyHere_36
    · have h := zif' c10006 h
      refine lv_iconst (v := 1) hx hb dX4_keyHere_20 (by decide) ?_
      exact zr_iret S hE hr hlk h dX4_keyHere_21
  · have h := zif' c10003 h
    refine lv_iconst (v := 0) hx hb dX4_keyHere_9 (by decide) ?_
    exact zr_iret S hE hr hlk h dX4_keyHere_10
set_option maxHeartbeats 4000000 in
set_option maxRecDepth 100000 in
theorem kX4_join_b (l : Launch) (D : va_G) (tc : Nat → ClassId) (lo : Nat) (ad : Nat → Nat) (fr : va_W) (zq : zz_Q) (d : Nat) (F : Int32 → Int32 → Int32 → zz_W → Option zz_W) (G : Int32 → Int32 → zz_W → Option zz_W) (a1 : Int32) (a2 : Int32) (a3 : Int32) (hF : ∀ (l : Launch) (D : va_G) (tc : Nat → ClassId) (lo : Nat) (ad : Nat → Nat) (fr : va_W) (zq : zz_Q) (x y z : Int32) (w w_ : zz_W), F x y z w = some w_ → zMv l yX4_join cX4_join 7 none { frames := 20 + d, cells := 0, slots := 0, locals := 400 + 40 * d } D tc lo ad zshC znnC fr zq [.ref (ad 36), .int x, .int y, .int z] w w_) (hG : ∀ (l : Launch) (D : va_G) (tc : Nat → ClassId) (lo : Nat) (ad : Nat → Nat) (fr : va_W) (zq : zz_Q) (x y : Int32) (w w_ : zz_W), G x y w = some w_ → zMv l yX4_readPiece cX4_readPiece 3 none { frames := 20 + d, cells := 0, slots := 0, locals := 400 + 40 * d } D tc lo ad zshC znnC fr zq [.ref (ad 36), .int x, .int y] w w_) (w : zz_W) (w_ : zz_W) (h : bX4_join F G a1 a2 a3 w = some w_) : zMv l yX4_join cX4_join 7 none { frames := 20 + (d + 1), cells := 0, slots := 0, locals := 400 + 40 * (d + 1) } D tc lo ad zshC znnC fr zq [.ref (ad 36), .int a1, .int a2, .int a3] w w_ := by
  refine zr_entry (by decide) (Nat.le_of_ble_eq_true rfl) fun p e s m args below meth c ls S hX hr hlk hE hl => ?_
  have S : CallFix p m c cX4_join 7 s args (Cond.code yX4_join cX4_join 7 none :: zw_tb) RX4 := S
  have hx := S.1
  have hb := S.2.1
  have hK := hX.2.1
  have hl : lv_has ls 7 [(0, .ref (ad 36)), (1, .int a1), (2, .int a2), (3, .int a3)] := hl
  unfold bX4_join at h
  have L37 : ∀ (n : Nat) (l1 : Int32) (l2 : Int32) (l3 : Int32) (l4 : Int32) (l5 : Int32) (w : zz_W) (ls : Array Slot) (H : Heap) (locs : List Loc), fX4_join_37 F G a1 a2 a3 n l1 l2 l3 l4 l5 w = some w_ → lv_has ls 7 [(0, .ref (ad 36)), (1, .int l1), (2, .int l2), (3, .int l3), (4, .int l4), (5, .int l5)] → zE D tc lo ad zshC znnC fr w s.heap H locs → W p l e { frames := 20 + (d + 1), cells := 0, slots := 0, locals := 400 + 40 * (d + 1) } s m args below meth c H locs 0 0 (zZv D tc lo ad zshC znnC fr below args s w_) (F0 m 37 ls []) := by
    intro n37
    induction n37 with
    | zero => intro l1 l2 l3 l4 l5 w ls H locs h hl hE; rw [fX4_join_37] at h; cases h
    | succ n37 ih37 =>
      intro l1 l2 l3 l4 l5 w ls H locs h hl hE
      rw [fX4_join_37] at h
      refine lv_iload hx hb dX4_join_37 (lv_at hl 5 rfl) ?_
      refine lv_iload hx hb dX4_join_39 (lv_at hl 4 rfl) ?_
      refine lv_icmp_ge (tgt := 96) hx hb dX4_join_41 (by decide) (fun c33 => ?_) (fun c33 => ?_)
      · have h := zif c33 h
        exact zr_vret S hE hr hlk h dX4_join_96
      · have h := zif' c33 h
        refine lv_aload_n hx hb dX4_join_44 rfl (lv_at hl 0 rfl) ?_
        obtain ⟨x34, ex34, h⟩ := zbdE h
        refine zr_getI S hK hE zcl_X4 (zc_36 w) 6 (Nat.le_of_ble_eq_true rfl) rfl qf_X4_28 dX4_join_45 ex34 ?_
        refine lv_if_ge (tgt := 96) hx hb dX4_join_48 (by decide) (fun c35 => ?_) (fun c35 => ?_)
        · have h := zif c35 h
          exact zr_vret S hE hr hlk h dX4_join_96
        · have h := zif' c35 h
          refine lv_aload_n hx hb dX4_join_51 rfl (lv_at hl 0 rfl) ?_
          refine lv_iload_n hx hb dX4_join_52 rfl (lv_at hl 1 rfl) ?_
          obtain ⟨x36, w37, ew37, h⟩ := zbd2E h
          refine zr_i (zr_runV (As := [.int l1]) S hX hE (kX4_joinsAt l D tc lo ad fr zq l1 w x36 w37 ew37) zyX4_joinsAt qm_X4_104 zcl_X4 rfl (zc_36 w) ⟨rfl, rfl⟩ ⟨by show 1 + 1 ≤ 20 + (d + 1); omega, by show 8 + (2 + 11) + 21 ≤ 400 + 40 * (d + 1); omega⟩ rfl hl.1 rfl (Nat.le_of_ble_eq_true rfl) dX4_join_53 ⟨Nat.zero_le _, Nat.zero_le _⟩) hE (fun H locs hE => ?_)
          refine lv_if_eq (tgt := 96) hx hb dX4_join_56 (by decide) (fun c38 => ?_) (fun c38 => ?_)
          · have h := zif c38 h
            exact zr_vret S hE hr hlk h dX4_join_96
          · have h := zif' c38 h
            refine lv_aload_n hx hb dX4_join_59 rfl (lv_at hl 0 rfl) ?_
            refine zr_getA S hK hE zcl_X4 (zc_36 w37) 1 (Nat.le_of_ble_eq_true rfl) (q := 37) rfl qf_X4_9 dX4_join_60 ?_
            refine lv_aload_n hx hb dX4_join_63 rfl (lv_at hl 0 rfl) ?_
            obtain ⟨x39, ex39, h⟩ := zbdE h
            refine zr_getI S hK hE zcl_X4 (zc_36 w37) 3 (Nat.le_of_ble_eq_true rfl) rfl qf_X4_69 dX4_join_64 ex39 ?_
            obtain ⟨x40, ex40, h⟩ := zbdE h
            refine zr_iald S hK hE (zc_37 w37) dX4_join_67 ex40 ?_
            refine lv_istore (lv' := [(6, .int x40), (0, .ref (ad 36)), (1, .int l1), (2, .int l2), (3, .int l3), (4, .int l4), (5, .int l5)]) hx hb dX4_join_68 hl (by decide) rfl (fun ls hl => ?_)
            refine lv_aload_n hx hb dX4_join_70 rfl (lv_at hl 1 rfl) ?_
            obtain ⟨w41, ew41, h⟩ := zbdE h
            refine zr_v (zr_runV (As := []) S hX hE (kX4_advance l D tc lo ad fr zq w37 w41 ew41) zyX4_advance qm_X4_37 zcl_X4 rfl (zc_36 w37) ⟨rfl, rfl⟩ ⟨by show 1 + 1 ≤ 20 + (d + 1); omega, by show 8 + (3 + 11) + 22 ≤ 400 + 40 * (d + 1); omega⟩ rfl hl.1 rfl (Nat.le_of_ble_eq_true rfl) dX4_join_71 ⟨Nat.zero_le _, Nat.zero_le _⟩) hE (fun H locs hE => ?_)
            refine lv_aload_n hx hb dX4_join_74 rfl (lv_at hl 1 rfl) ?_
            refine lv_iload_n hx hb dX4_join_75 rfl (lv_at hl 2 rfl) ?_
            refine lv_iconst (v := 1) hx hb dX4_join_76 (by decide) ?_
            refine lv_iadd hx hb dX4_join_77 ?_
            refine lv_iload_n hx hb dX4_join_78 rfl (lv_at hl 3 rfl) ?_
            refine lv_iload_n hx hb dX4_join_79 rfl (lv_at hl 4 rfl) ?_
            obtain ⟨w42, ew42, h⟩ := zbdE h
            refine zr_v (zr_runV (As := [.int (l1 + 1), .int l2, .int l3]) S hX hE (hF l D tc lo ad fr zq (l1 + 1) l2 l3 w41 w42 ew42) zyX4_join qm_X4_50 zcl_X4 rfl (zc_36 w41) ⟨rfl, rfl⟩ ⟨by show (20 + d) + 1 ≤ 20 + (d + 1); omega, by show 8 + (7 + 11) + (400 + 40 * d) ≤ 400 + 40 * (d + 1); omega⟩ rfl hl.1 rfl (Nat.le_of_ble_eq_true rfl) dX4_join_80 ⟨Nat.zero_le _, Nat.zero_le _⟩) hE (fun H locs hE => ?_)
            refine lv_aload_n hx hb dX4_join_83 rfl (lv_at hl 1 rfl) ?_
            refine lv_iload hx hb dX4_join_84 (lv_at hl 0 rfl) ?_
            refine lv_ineg hx hb dX4_join_86 ?_
            obtain ⟨w43, ew43, h⟩ := zbdE h
            refine zr_v (zr_runV (As := [.int (-x40)]) S hX hE (kX4_write l D tc lo ad fr zq (-x40) w42 w43 ew43) zyX4_write qm_X4_108 zcl_X4 rfl (zc_36 w42) ⟨rfl, rfl⟩ ⟨by show 0 + 1 ≤ 20 + (d + 1); omega, by show 8 + (2 + 11) + 0 ≤ 400 + 40 * (d + 1); omega⟩ rfl hl.1 rfl (Nat.le_of_ble_eq_true rfl) dX4_join_87 ⟨Nat.zero_le _, Nat.zero_le _⟩) hE (fun H locs hE => ?_)
            obtain ⟨x44, ex44, h⟩ := zbdE h
            refine lv_iinc (v := x44) (lv' := [(5, .int x44), (6, .int x40), (0, .ref (ad 36)), (1, .int l1), (2, .int l2), (3, .int l3), (4, .int l4)]) hx hb dX4_join_90 hl (k := 6) rfl (zinc (k := 1) (by decide) ex44) (by decide) rfl (fun ls hl => ?_)
            refine lv_goto (tgt := 37) hx hb dX4_join_93 (by decide) ?_
            exact ih37 l1 l2 l3 l4 x44 w43 ls _ _ h (lv_sub hl [2, 3, 4, 5, 6, 0] rfl) hE
  refine lv_iload_n hx hb dX4_join_0 rfl (lv_at hl 1 rfl) ?_
  refine lv_iconst (v := 4) hx hb dX4_join_1 (by decide) ?_
  refine lv_icmp_le (tgt := 12) hx hb dX4_join_2 (by decide) (fun c10001 => ?_) (fun c10001 => ?_)
  · have h := zif c10001 h
    refine lv_aload_n hx hb dX4_join_12 rfl (lv_at hl 0 rfl) ?_
    refine lv_iload_n hx hb dX4_join_13 rfl (lv_at hl 1 rfl) ?_
    refine lv_iconst (v := 1) hx hb dX4_join_14 (by decide) ?_
    refine lv_iadd hx hb dX4_join_15 ?_
    refine lv_iload_n hx hb dX4_join_16 rfl (lv_at hl 2 rfl) ?_
    refine lv_iload_n hx hb dX4_join_17 rfl (lv_at hl 3 rfl) ?_
    obtain ⟨w10002, ew10002, h⟩ := zbdE h
    refine zr_v (zr_runV (As := [.int (a1 + 1), .int a2, .int a3]) S hX hE (hF l D tc lo ad fr zq (a1 + 1) a2 a3 w w10002 ew10002) zyX4_join qm_X4_50 zcl_X4 rfl (zc_36 w) ⟨rfl, rfl⟩ ⟨by show (20 + d) + 1 ≤ 20 + (d + 1); omega, by show 8 + (7 + 11) + (400 + 40 * d) ≤ 400 + 40 * (d + 1); omega⟩ rfl hl.1 rfl (Nat.le_of_ble_eq_true rfl) dX4_join_18 ⟨Nat.zero_le _, Nat.zero_le _⟩) hE (fun H locs hE => ?_)
    refine lv_iload_n hx hb dX4_join_21 rfl (lv_at hl 1 rfl) ?_
    refine lv_iconst (v := 2) hx hb dX4_join_22 (by decide) ?_
    refine lv_icmp_ne (tgt := 30) hx hb dX4_join_23 (by decide) (fun c10003 => ?_) (fun c10003 => ?_)
    · have h := zif' c10003 h
      refine lv_bipush (v := 96) hx hb dX4_join_30 (by decide) ?_
      refine lv_istore (lv' := [(4, .int 96), (0, .ref (ad 36)), (1, .int a1), (2, .int a2), (3, .int a3)]) hx hb dX4_join_32 hl (by decide) rfl (fun ls hl => ?_)
      refine lv_iconst (v := 0) hx hb dX4_join_34 (by decide) ?_
      refine lv_istore (lv' := [(5, .int 0), (4, .int 96), (0, .ref (ad 36)), (1, .int a1), (2, .int a2), (3, .int a3)]) hx hb dX4_join_35 hl (by decide) rfl (fun ls hl => ?_)
      exact L37 zfuel a1 a2 a3 96 0 w10002 ls _ _ h (lv_sub hl [2, 3, 4, 5, 1, 0] rfl) hE
    · have h := zif c10003 h
      refine lv_iconst (v := 1) hx hb dX4_join_26 (by decide) ?_
      refine lv_goto (tgt := 32) hx hb dX4_join_27 (by decide) ?_
      refine lv_istore (lv' := [(4, .int 1), (0, .ref (ad 36)), (1, .int a1), (2, .int a2), (3, .int a3)]) hx hb dX4_join_32 hl (by decide) rfl (fun ls hl => ?_)
      refine lv_iconst (v := 0) hx hb dX4_join_34 (by decide) ?_
      refine lv_istore (lv' := [(5, .int 0), (4, .int 1), (0, .ref (ad 36)), (1, .int a1), (2, .int a2), (3, .int a3)]) hx hb dX4_join_35 hl (by decide) rfl (fun ls hl => ?_)
      exact L37 zfuel a1 a2 a3 1 0 w10002 ls _ _ h (lv_sub hl [2, 3, 4, 5, 1, 0] rfl) hE
  · have h := zif' c10001 h
    refine lv_aload_n hx hb dX4_join_5 rfl (lv_at hl 0 rfl) ?_
    refine lv_iload_n hx hb dX4_join_6 rfl (lv_at hl 2 rfl) ?_
    refine lv_iload_n hx hb dX4_join_7 rfl (lv_at hl 3 rfl) ?_
    obtain ⟨w10004, ew10004, h⟩ := zbdE h
    refine zr_v (zr_runV (As := [.int a2, .int a3]) S hX hE (hG l D tc lo ad fr zq a2 a3 w w10004 ew10004) zyX4_readPiece qm_X4_100 zcl_X4 rfl (zc_36 w) ⟨rfl, rfl⟩ ⟨by show (20 + d) + 1 ≤ 20 + (d + 1); omega, by show 8 + (3 + 11) + (400 + 40 * d) ≤ 400 + 40 * (d + 1); omega⟩ rfl hl.1 rfl (Nat.le_of_ble_eq_true rfl) dX4_join_8 ⟨Nat.zero_le _, Nat.zero_le _⟩) hE (fun H locs hE => ?_)
    exact zr_vret S hE hr hlk h dX4_join_11
set_option maxHeartbeats 4000000 in
set_option maxRecDepth 100000 in
theorem kX4_readPiece_b (l : Launch) (D : va_G) (tc : Nat → ClassId) (lo : Nat) (ad : Nat → Nat) (fr : va_W) (zq : zz_Q) (d : Nat) (F : Int32 → Int32 → Int32 → zz_W → Option zz_W) (G : Int32 → Int32 → zz_W → Option zz_W) (a1 : Int32) (a2 : Int32) (hF : ∀ (l : Launch) (D : va_G) (tc : Nat → ClassId) (lo : Nat) (ad : Nat → Nat) (fr : va_W) (zq : zz_Q) (x y z : Int32) (w w_ : zz_W), F x y z w = some w_ → zMv l yX4_join cX4_join 7 none { frames := 20 + d, cells := 0, slots := 0, locals := 400 + 40 * d } D tc lo ad zshC znnC fr zq [.ref (ad 36), .int x, .int y, .int z] w w_) (hG : ∀ (l : Launch) (D : va_G) (tc : Nat → ClassId) (lo : Nat) (ad : Nat → Nat) (fr : va_W) (zq : zz_Q) (x y : Int32) (w w_ : zz_W), G x y w = some w_ → zMv l yX4_readPiece cX4_readPiece 3 none { frames := 20 + d, cells := 0, slots := 0, locals := 400 + 40 * d } D tc lo ad zshC znnC fr zq [.ref (ad 36), .int x, .int y] w w_) (w : zz_W) (w_ : zz_W) (h : bX4_readPiece F G a1 a2 w = some w_) : zMv l yX4_readPiece cX4_readPiece 3 none { frames := 20 + (d + 1), cells := 0, slots := 0, locals := 400 + 40 * (d + 1) } D tc lo ad zshC znnC fr zq [.ref (ad 36), .int a1, .int a2] w w_ := by
  refine zr_entry (by decide) (Nat.le_of_ble_eq_true rfl) fun p e s m args below meth c ls S hX hr hlk hE hl => ?_
  have S : CallFix p m c cX4_readPiece 3 s args (Cond.code yX4_readPiece cX4_readPiece 3 none :: zw_tb) RX4 := S
  have hx := S.1
  have hb := S.2.1
  have hK := hX.2.1
  have hl : lv_has ls 3 [(0, .ref (ad 36)), (1, .int a1), (2, .int a2)] := hl
  unfold bX4_readPiece at h
  have J109 : ∀ (w : zz_W) (ls : Array Slot) (H : Heap) (locs : List Loc), fX4_readPiece_109 F G a1 a2 w = some w_ → lv_has ls 3 [(0, .ref (ad 36))] → zE D tc lo ad zshC znnC fr w s.heap H locs → W p l e { frames := 20 + (d + 1), cells := 0, slots := 0, locals := 400 + 40 * (d + 1) } s m args below meth c H locs 0 0 (zZv D tc lo ad zshC znnC fr below args s w_) (F0 m 109 ls []) := by
    intro w ls H locs h hl hE
    unfold fX4_readPiece_109 at h
    refine lv_aload_n hx hb dX4_readPiece_109 rfl (lv_at hl 0 rfl) ?_
    obtain ⟨w47, ew47, h⟩ := zbdE h
    refine zr_v (zr_runV (As := []) S hX hE (kX4_blame l D tc lo ad fr zq w w47 ew47) zyX4_blame qm_X4_47 zcl_X4 rfl (zc_36 w) ⟨rfl, rfl⟩ ⟨by show 0 + 1 ≤ 20 + (d + 1); omega, by show 8 + (1 + 11) + 0 ≤ 400 + 40 * (d + 1); omega⟩ rfl hl.1 rfl (Nat.le_of_ble_eq_true rfl) dX4_readPiece_110 ⟨Nat.zero_le _, Nat.zero_le _⟩) hE (fun H locs hE => ?_)
    exact zr_vret S hE hr hlk h dX4_readPiece_113
  have J74 : ∀ (l1 : Int32) (l2 : Int32) (w : zz_W) (ls : Array Slot) (H : Heap) (locs : List Loc), fX4_readPiece_74 F G a1 a2 l1 l2 w = some w_ → lv_has ls 3 [(0, .ref (ad 36)), (1, .int l1), (2, .int l2)] → zE D tc lo ad zshC znnC fr w s.heap H locs → W p l e { frames := 20 + (d + 1), cells := 0, slots := 0, locals := 400 + 40 * (d + 1) } s m args below meth c H locs 0 0 (zZv D tc lo ad zshC znnC fr below args s w_) (F0 m 74 ls []) := by
    intro l1 l2 w ls H locs h hl hE
    unfold fX4_readPiece_74 at h
    refine lv_aload_n hx hb dX4_readPiece_74 rfl (lv_at hl 0 rfl) ?_
    refine lv_bipush (v := 40) hx hb dX4_readPiece_75 (by decide) ?_
    obtain ⟨x48, w49, ew49, h⟩ := zbd2E h
    refine zr_i (zr_runV (As := [.int 40]) S hX hE (kX4_signIs l D tc lo ad fr zq 40 w x48 w49 ew49) zyX4_signIs qm_X4_112 zcl_X4 rfl (zc_36 w) ⟨rfl, rfl⟩ ⟨by show 0 + 1 ≤ 20 + (d + 1); omega, by show 8 + (2 + 11) + 0 ≤ 400 + 40 * (d + 1); omega⟩ rfl hl.1 rfl (Nat.le_of_ble_eq_true rfl) dX4_readPiece_77 ⟨Nat.zero_le _, Nat.zero_le _⟩) hE (fun H locs hE => ?_)
    refine lv_if_eq (tgt := 109) hx hb dX4_readPiece_80 (by decide) (fun c50 => ?_) (fun c50 => ?_)
    · have h := zif c50 h
      exact J109 w49 ls _ _ h (lv_sub hl [0] rfl) hE
    · have h := zif' c50 h
      refine lv_iload_n hx hb dX4_readPiece_83 rfl (lv_at hl 1 rfl) ?_
      refine lv_bipush (v := 8) hx hb dX4_readPiece_84 (by decide) ?_
      refine lv_icmp_ge (tgt := 109) hx hb dX4_readPiece_86 (by decide) (fun c51 => ?_) (fun c51 => ?_)
      · have h := zif c51 h
        exact J109 w49 ls _ _ h (lv_sub hl [0] rfl) hE
      · have h := zif' c51 h
        refine lv_aload_n hx hb dX4_readPiece_89 rfl (lv_at hl 0 rfl) ?_
        obtain ⟨w52, ew52, h⟩ := zbdE h
        refine zr_v (zr_runV (As := []) S hX hE (kX4_advance l D tc lo ad fr zq w49 w52 ew52) zyX4_advance qm_X4_37 zcl_X4 rfl (zc_36 w49) ⟨rfl, rfl⟩ ⟨by show 1 + 1 ≤ 20 + (d + 1); omega, by show 8 + (3 + 11) + 22 ≤ 400 + 40 * (d + 1); omega⟩ rfl hl.1 rfl (Nat.le_of_ble_eq_true rfl) dX4_readPiece_90 ⟨Nat.zero_le _, Nat.zero_le _⟩) hE (fun H locs hE => ?_)
        refine lv_aload_n hx hb dX4_readPiece_93 rfl (lv_at hl 0 rfl) ?_
        refine lv_iconst (v := 0) hx hb dX4_readPiece_94 (by decide) ?_
        refine lv_iload_n hx hb dX4_readPiece_95 rfl (lv_at hl 1 rfl) ?_
        refine lv_iconst (v := 1) hx hb dX4_readPiece_96 (by decide) ?_
        refine lv_iadd hx hb dX4_readPiece_97 ?_
        refine lv_iload_n hx hb dX4_readPiece_98 rfl (lv_at hl 2 rfl) ?_
        obtain ⟨w53, ew53, h⟩ := zbdE h
        refine zr_v (zr_runV (As := [.int 0, .int (l1 + 1), .int l2]) S hX hE (hF l D tc lo ad fr zq 0 (l1 + 1) l2 w52 w53 ew53) zyX4_join qm_X4_50 zcl_X4 rfl (zc_36 w52) ⟨rfl, rfl⟩ ⟨by show (20 + d) + 1 ≤ 20 + (d + 1); omega, by show 8 + (7 + 11) + (400 + 40 * d) ≤ 400 + 40 * (d + 1); omega⟩ rfl hl.1 rfl (Nat.le_of_ble_eq_true rfl) dX4_readPiece_99 ⟨Nat.zero_le _, Nat.zero_le _⟩) hE (fun H locs hE => ?_)
        refine lv_aload_n hx hb dX4_readPiece_102 rfl (lv_at hl 0 rfl) ?_
        obtain ⟨w54, ew54, h⟩ := zbdE h
        refine zr_v (zr_runV (As := []) S hX hE (kX4_closeBracket l D tc lo ad fr zq w53 w54 ew54) zyX4_closeBracket qm_X4_122 zcl_X4 rfl (zc_36 w53) ⟨rfl, rfl⟩ ⟨by show 2 + 1 ≤ 20 + (d + 1); omega, by show 8 + (1 + 11) + 44 ≤ 400 + 40 * (d + 1); omega⟩ rfl hl.1 rfl (Nat.le_of_ble_eq_true rfl) dX4_readPiece_103 ⟨Nat.zero_le _, Nat.zero_le _⟩) hE (fun H locs hE => ?_)
        refine lv_goto (tgt := 113) hx hb dX4_readPiece_106 (by decide) ?_
        exact zr_vret S hE hr hlk h dX4_readPiece_113
  refine lv_aload_n hx hb dX4_readPiece_0 rfl (lv_at hl 0 rfl) ?_
  obtain ⟨x10001, ex10001, h⟩ := zbdE h
  refine zr_getI S hK hE zcl_X4 (zc_36 w) 6 (Nat.le_of_ble_eq_true rfl) rfl qf_X4_28 dX4_readPiece_1 ex10001 ?_
  refine lv_if_lt (tgt := 8) hx hb dX4_readPiece_4 (by decide) (fun c10002 => ?_) (fun c10002 => ?_)
  · have h := zif c10002 h
    refine lv_aload_n hx hb dX4_readPiece_8 rfl (lv_at hl 0 rfl) ?_
    obtain ⟨x10003, ex10003, h⟩ := zbdE h
    refine zr_getI S hK hE zcl_X4 (zc_36 w) 5 (Nat.le_of_ble_eq_true rfl) rfl qf_X4_25 dX4_readPiece_9 ex10003 ?_
    refine lv_iconst (v := 2) hx hb dX4_readPiece_12 (by decide) ?_
    refine lv_icmp_ne (tgt := 23) hx hb dX4_readPiece_13 (by decide) (fun c10004 => ?_) (fun c10004 => ?_)
    · have h := zif' c10004 h
      refine lv_aload_n hx hb dX4_readPiece_23 rfl (lv_at hl 0 rfl) ?_
      obtain ⟨x10005, ex10005, h⟩ := zbdE h
      refine zr_getI S hK hE zcl_X4 (zc_36 w) 5 (Nat.le_of_ble_eq_true rfl) rfl qf_X4_25 dX4_readPiece_24 ex10005 ?_
      refine lv_iconst (v := 1) hx hb dX4_readPiece_27 (by decide) ?_
      refine lv_icmp_ne (tgt := 38) hx hb dX4_readPiece_28 (by decide) (fun c10006 => ?_) (fun c10006 => ?_)
      · have h := zif' c10006 h
        refine lv_aload_n hx hb dX4_readPiece_38 rfl (lv_at hl 0 rfl) ?_
        refine lv_bipush (v := 33) hx hb dX4_readPiece_39 (by decide) ?_
        obtain ⟨x10007, w10008, ew10008, h⟩ := zbd2E h
        refine zr_i (zr_runV (As := [.int 33]) S hX hE (kX4_signIs l D tc lo ad fr zq 33 w x10007 w10008 ew10008) zyX4_signIs qm_X4_112 zcl_X4 rfl (zc_36 w) ⟨rfl, rfl⟩ ⟨by show 0 + 1 ≤ 20 + (d + 1); omega, by show 8 + (2 + 11) + 0 ≤ 400 + 40 * (d + 1); omega⟩ rfl hl.1 rfl (Nat.le_of_ble_eq_true rfl) dX4_readPiece_41 ⟨Nat.zero_le _, Nat.zero_le _⟩) hE (fun H locs hE => ?_)
        refine lv_if_eq (tgt := 74) hx hb dX4_readPiece_44 (by decide) (fun c10009 => ?_) (fun c10009 => ?_)
        · have h := zif c10009 h
          exact J74 a1 a2 w10008 ls _ _ h (lv_sub hl [0, 1, 2] rfl) hE
        · have h := zif' c10009 h
          refine lv_iload_n hx hb dX4_readPiece_47 rfl (lv_at hl 2 rfl) ?_
          refine lv_bipush (v := 8) hx hb dX4_readPiece_48 (by decide) ?_
          refine lv_icmp_ge (tgt := 74) hx hb dX4_readPiece_50 (by decide) (fun c10010 => ?_) (fun c10010 => ?_)
          · have h := zif c10010 h
            exact J74 a1 a2 w10008 ls _ _ h (lv_sub hl [0, 1, 2] rfl) hE
          · have h := zif' c10010 h
            refine lv_aload_n hx hb dX4_readPiece_53 rfl (lv_at hl 0 rfl) ?_
            obtain ⟨w10011, ew10011, h⟩ := zbdE h
            refine zr_v (zr_runV (As := []) S hX hE (kX4_advance l D tc lo ad fr zq w10008 w10011 ew10011) zyX4_advance qm_X4_37 zcl_X4 rfl (zc_36 w10008) ⟨rfl, rfl⟩ ⟨by show 1 + 1 ≤ 20 + (d + 1); omega, by show 8 + (3 + 11) + 22 ≤ 400 + 40 * (d + 1); omega⟩ rfl hl.1 rfl (Nat.le_of_ble_eq_true rfl) dX4_readPiece_54 ⟨Nat.zero_le _, Nat.zero_le _⟩) hE (fun H locs hE => ?_)
            refine lv_aload_n hx hb dX4_readPiece_57 rfl (lv_at hl 0 rfl) ?_
            refine lv_iload_n hx hb dX4_readPiece_58 rfl (lv_at hl 1 rfl) ?_
            refine lv_iload_n hx hb dX4_readPiece_59 rfl (lv_at hl 2 rfl) ?_
            refine lv_iconst (v := 1) hx hb dX4_readPiece_60 (by decide) ?_
            refine lv_iadd hx hb dX4_readPiece_61 ?_
            obtain ⟨w10012, ew10012, h⟩ := zbdE h
            refine zr_v (zr_runV (As := [.int a1, .int (a2 + 1)]) S hX hE (hG l D tc lo ad fr zq a1 (a2 + 1) w10011 w10012 ew10012) zyX4_readPiece qm_X4_100 zcl_X4 rfl (zc_36 w10011) ⟨rfl, rfl⟩ ⟨by show (20 + d) + 1 ≤ 20 + (d + 1); omega, by show 8 + (3 + 11) + (400 + 40 * d) ≤ 400 + 40 * (d + 1); omega⟩ rfl hl.1 rfl (Nat.le_of_ble_eq_true rfl) dX4_readPiece_62 ⟨Nat.zero_le _, Nat.zero_le _⟩) hE (fun H locs hE => ?_)
            refine lv_aload_n hx hb dX4_readPiece_65 rfl (lv_at hl 0 rfl) ?_
            refine lv_bipush (v := (-33)) hx hb dX4_readPiece_66 (by decide) ?_
            obtain ⟨w10013, ew10013, h⟩ := zbdE h
            refine zr_v (zr_runV (As := [.int (-33)]) S hX hE (kX4_write l D tc lo ad fr zq (-33) w10012 w10013 ew10013) zyX4_write qm_X4_108 zcl_X4 rfl (zc_36 w10012) ⟨rfl, rfl⟩ ⟨by show 0 + 1 ≤ 20 + (d + 1); omega, by show 8 + (2 + 11) + 0 ≤ 400 + 40 * (d + 1); omega⟩ rfl hl.1 rfl (Nat.le_of_ble_eq_true rfl) dX4_readPiece_68 ⟨Nat.zero_le _, Nat.zero_le _⟩) hE (fun H locs hE => ?_)
            refine lv_goto (tgt := 113) hx hb dX4_readPiece_71 (by decide) ?_
            exact zr_vret S hE hr hlk h dX4_readPiece_113
      · have h := zif c10006 h
        refine lv_aload_n hx hb dX4_readPiece_31 rfl (lv_at hl 0 rfl) ?_
        obtain ⟨w10014, ew10014, h⟩ := zbdE h
        refine zr_v (zr_runV (As := []) S hX hE (kX4_readName l D tc lo ad fr zq w w10014 ew10014) zyX4_readName qm_X4_119 zcl_X4 rfl (zc_36 w) ⟨rfl, rfl⟩ ⟨by show 4 + 1 ≤ 20 + (d + 1); omega, by show 8 + (2 + 11) + 91 ≤ 400 + 40 * (d + 1); omega⟩ rfl hl.1 rfl (Nat.le_of_ble_eq_true rfl) dX4_readPiece_32 ⟨Nat.zero_le _, Nat.zero_le _⟩) hE (fun H locs hE => ?_)
        refine lv_goto (tgt := 113) hx hb dX4_readPiece_35 (by decide) ?_
        exact zr_vret S hE hr hlk h dX4_readPiece_113
    · have h := zif c10004 h
      refine lv_aload_n hx hb dX4_readPiece_16 rfl (lv_at hl 0 rfl) ?_
      obtain ⟨w10015, ew10015, h⟩ := zbdE h
      refine zr_v (zr_runV (As := []) S hX hE (kX4_readNumber l D tc lo ad fr zq w w10015 ew10015) zyX4_readNumber qm_X4_116 zcl_X4 rfl (zc_36 w) ⟨rfl, rfl⟩ ⟨by show 3 + 1 ≤ 20 + (d + 1); omega, by show 8 + (3 + 11) + 65 ≤ 400 + 40 * (d + 1); omega⟩ rfl hl.1 rfl (Nat.le_of_ble_eq_true rfl) dX4_readPiece_17 ⟨Nat.zero_le _, Nat.zero_le _⟩) hE (fun H locs hE => ?_)
      refine lv_goto (tgt := 113) hx hb dX4_readPiece_20 (by decide) ?_
      exact zr_vret S hE hr hlk h dX4_readPiece_113
  · have h := zif' c10002 h
    exact zr_vret S hE hr hlk h dX4_readPiece_7
theorem kJR : ∀ d : Nat, (∀ (l : Launch) (D : va_G) (tc : Nat → ClassId) (lo : Nat) (ad : Nat → Nat) (fr : va_W) (zq : zz_Q) (x y z : Int32) (w w_ : zz_W), (fJR d).1 x y z w = some w_ → zMv l yX4_join cX4_join 7 none { frames := 20 + d, cells := 0, slots := 0, locals := 400 + 40 * d } D tc lo ad zshC znnC fr zq [.ref (ad 36), .int x, .int y, .int z] w w_) ∧ (∀ (l : Launch) (D : va_G) (tc : Nat → ClassId) (lo : Nat) (ad : Nat → Nat) (fr : va_W) (zq : zz_Q) (x y : Int32) (w w_ : zz_W), (fJR d).2 x y w = some w_ → zMv l yX4_readPiece cX4_readPiece 3 none { frames := 20 + d, cells := 0, slots := 0, locals := 400 + 40 * d } D tc lo ad zshC znnC fr zq [.ref (ad 36), .int x, .int y] w w_) := by
  intro d
  induction d with
  | zero => exact ⟨fun _ _ _ _ _ _ _ _ _ _ _ _ h => (by cases h), fun _ _ _ _ _ _ _ _ _ _ _ h => (by cases h)⟩
  | succ d ih => exact ⟨fun l D tc lo ad fr zq x y z w w_ h => kX4_join_b l D tc lo ad fr zq d _ _ x y z ih.1 ih.2 w w_ h, fun l D tc lo ad fr zq x y w w_ h => kX4_readPiece_b l D tc lo ad fr zq d _ _ x y ih.1 ih.2 w w_ h⟩
theorem kX4_join (l : Launch) (D : va_G) (tc : Nat → ClassId) (lo : Nat) (ad : Nat → Nat) (fr : va_W) (zq : zz_Q) (a1 a2 a3 : Int32) (w w_ : zz_W) (h : fX4_join a1 a2 a3 w = some w_) : zMv l yX4_join cX4_join 7 none { frames := 120, cells := 0, slots := 0, locals := 4400 } D tc lo ad zshC znnC fr zq [.ref (ad 36), .int a1, .int a2, .int a3] w w_ := (kJR 100).1 l D tc lo ad fr zq a1 a2 a3 w w_ h
set_option maxHeartbeats 4000000 in
set_option maxRecDepth 100000 in
theorem kX4_findFault (l : Launch) (D : va_G) (tc : Nat → ClassId) (lo : Nat) (ad : Nat → Nat) (fr : va_W) (zq : zz_Q) (w : zz_W) (r : Int32) (w_ : zz_W) (h : fX4_findFault w = some (r, w_)) : zMi l yX4_findFault cX4_findFault 1 (some .int) { frames := 121, cells := 0, slots := 0, locals := 4426 } D tc lo ad zshC znnC fr zq [.ref (ad 36)] w r w_ := by
  refine zr_entry (by decide) (Nat.le_of_ble_eq_true rfl) fun p e s m args below meth c ls S hX hr hlk hE hl => ?_
  have S : CallFix p m c cX4_findFault 1 s args (Cond.code yX4_findFault cX4_findFault 1 (some .int) :: zw_tb) RX4 := S
  have hx := S.1
  have hb := S.2.1
  have hK := hX.2.1
  have hl : lv_has ls 1 [(0, .ref (ad 36))] := hl
  unfold fX4_findFault at h
  refine lv_aload_n hx hb dX4_findFault_0 rfl (lv_at hl 0 rfl) ?_
  refine lv_iconst (v := 0) hx hb dX4_findFault_1 (by decide) ?_
  obtain ⟨w10001, ew10001, h⟩ := zbdE h
  refine zr_putI S hK hE zcl_X4 (zc_36 w) 4 (Nat.le_of_ble_eq_true rfl) rfl rfl rfl qf_X4_22 dX4_findFault_2 ew10001 (fun H locs hE => ?_)
  refine lv_aload_n hx hb dX4_findFault_5 rfl (lv_at hl 0 rfl) ?_
  refine lv_iconst (v := 0) hx hb dX4_findFault_6 (by decide) ?_
  obtain ⟨w10002, ew10002, h⟩ := zbdE h
  refine zr_putI S hK hE zcl_X4 (zc_36 w10001) 5 (Nat.le_of_ble_eq_true rfl) rfl rfl rfl qf_X4_25 dX4_findFault_7 ew10002 (fun H locs hE => ?_)
  refine lv_aload_n hx hb dX4_findFault_10 rfl (lv_at hl 0 rfl) ?_
  refine lv_iconst (v := (-1)) hx hb dX4_findFault_11 (by decide) ?_
  obtain ⟨w10003, ew10003, h⟩ := zbdE h
  refine zr_putI S hK hE zcl_X4 (zc_36 w10002) 6 (Nat.le_of_ble_eq_true rfl) rfl rfl rfl qf_X4_28 dX4_findFault_12 ew10003 (fun H locs hE => ?_)
  refine lv_aload_n hx hb dX4_findFault_15 rfl (lv_at hl 0 rfl) ?_
  refine lv_iconst (v := 0) hx hb dX4_findFault_16 (by decide) ?_
  obtain ⟨w10004, ew10004, h⟩ := zbdE h
  refine zr_putI S hK hE zcl_X4 (zc_36 w10003) 8 (Nat.le_of_ble_eq_true rfl) rfl rfl rfl qf_X4_31 dX4_findFault_17 ew10004 (fun H locs hE => ?_)
  refine lv_aload_n hx hb dX4_findFault_20 rfl (lv_at hl 0 rfl) ?_
  refine lv_iconst (v := 0) hx hb dX4_findFault_21 (by decide) ?_
  obtain ⟨w10005, ew10005, h⟩ := zbdE h
  refine zr_putI S hK hE zcl_X4 (zc_36 w10004) 9 (Nat.le_of_ble_eq_true rfl) rfl rfl rfl qf_X4_34 dX4_findFault_22 ew10005 (fun H locs hE => ?_)
  refine lv_aload_n hx hb dX4_findFault_25 rfl (lv_at hl 0 rfl) ?_
  obtain ⟨w10006, ew10006, h⟩ := zbdE h
  refine zr_v (zr_runV (As := []) S hX hE (kX4_advance l D tc lo ad fr zq w10005 w10006 ew10006) zyX4_advance qm_X4_37 zcl_X4 rfl (zc_36 w10005) ⟨rfl, rfl⟩ ⟨Nat.le_of_ble_eq_true rfl, Nat.le_of_ble_eq_true rfl⟩ rfl hl.1 rfl (Nat.le_of_ble_eq_true rfl) dX4_findFault_26 ⟨Nat.zero_le _, Nat.zero_le _⟩) hE (fun H locs hE => ?_)
  refine lv_aload_n hx hb dX4_findFault_29 rfl (lv_at hl 0 rfl) ?_
  refine lv_aload_n hx hb dX4_findFault_30 rfl (lv_at hl 0 rfl) ?_
  obtain ⟨x10007, w10008, ew10008, h⟩ := zbd2E h
  refine zr_i (zr_runV (As := []) S hX hE (kX4_keyHere l D tc lo ad fr zq w10006 x10007 w10008 ew10008) zyX4_keyHere qm_X4_40 zcl_X4 rfl (zc_36 w10006) ⟨rfl, rfl⟩ ⟨Nat.le_of_ble_eq_true rfl, Nat.le_of_ble_eq_true rfl⟩ rfl hl.1 rfl (Nat.le_of_ble_eq_true rfl) dX4_findFault_31 ⟨Nat.zero_le _, Nat.zero_le _⟩) hE (fun H locs hE => ?_)
  obtain ⟨w10009, ew10009, h⟩ := zbdE h
  refine zr_putI S hK hE zcl_X4 (zc_36 w10008) 7 (Nat.le_of_ble_eq_true rfl) rfl rfl rfl qf_X4_44 dX4_findFault_34 ew10009 (fun H locs hE => ?_)
  refine lv_aload_n hx hb dX4_findFault_37 rfl (lv_at hl 0 rfl) ?_
  obtain ⟨x10010, ex10010, h⟩ := zbdE h
  refine zr_getI S hK hE zcl_X4 (zc_36 w10009) 7 (Nat.le_of_ble_eq_true rfl) rfl qf_X4_44 dX4_findFault_38 ex10010 ?_
  refine lv_if_ge (tgt := 53) hx hb dX4_findFault_41 (by decide) (fun c10011 => ?_) (fun c10011 => ?_)
  · have h := zif c10011 h
    refine lv_aload_n hx hb dX4_findFault_53 rfl (lv_at hl 0 rfl) ?_
    obtain ⟨w10012, ew10012, h⟩ := zbdE h
    refine zr_v (zr_runV (As := []) S hX hE (kX4_advance l D tc lo ad fr zq w10009 w10012 ew10012) zyX4_advance qm_X4_37 zcl_X4 rfl (zc_36 w10009) ⟨rfl, rfl⟩ ⟨Nat.le_of_ble_eq_true rfl, Nat.le_of_ble_eq_true rfl⟩ rfl hl.1 rfl (Nat.le_of_ble_eq_true rfl) dX4_findFault_54 ⟨Nat.zero_le _, Nat.zero_le _⟩) hE (fun H locs hE => ?_)
    refine lv_aload_n hx hb dX4_findFault_57 rfl (lv_at hl 0 rfl) ?_
    refine lv_iconst (v := 0) hx hb dX4_findFault_58 (by decide) ?_
    refine lv_iconst (v := 0) hx hb dX4_findFault_59 (by decide) ?_
    refine lv_iconst (v := 0) hx hb dX4_findFault_60 (by decide) ?_
    obtain ⟨w10013, ew10013, h⟩ := zbdE h
    refine zr_v (zr_runV (As := [.int 0, .int 0, .int 0]) S hX hE (kX4_join l D tc lo ad fr zq 0 0 0 w10012 w10013 ew10013) zyX4_join qm_X4_50 zcl_X4 rfl (zc_36 w10012) ⟨rfl, rfl⟩ ⟨Nat.le_of_ble_eq_true rfl, Nat.le_of_ble_eq_true rfl⟩ rfl hl.1 rfl (Nat.le_of_ble_eq_true rfl) dX4_findFault_61 ⟨Nat.zero_le _, Nat.zero_le _⟩) hE (fun H locs hE => ?_)
    refine lv_aload_n hx hb dX4_findFault_64 rfl (lv_at hl 0 rfl) ?_
    obtain ⟨x10014, ex10014, h⟩ := zbdE h
    refine zr_getI S hK hE zcl_X4 (zc_36 w10013) 5 (Nat.le_of_ble_eq_true rfl) rfl qf_X4_25 dX4_findFault_65 ex10014 ?_
    refine lv_if_eq (tgt := 75) hx hb dX4_findFault_68 (by decide) (fun c10015 => ?_) (fun c10015 => ?_)
    · have h := zif c10015 h
      refine lv_aload_n hx hb dX4_findFault_75 rfl (lv_at hl 0 rfl) ?_
      obtain ⟨x10016, ex10016, h⟩ := zbdE h
      refine zr_getI S hK hE zcl_X4 (zc_36 w10013) 6 (Nat.le_of_ble_eq_true rfl) rfl qf_X4_28 dX4_findFault_76 ex10016 ?_
      exact zr_iret S hE hr hlk h dX4_findFault_79
    · have h := zif' c10015 h
      refine lv_aload_n hx hb dX4_findFault_71 rfl (lv_at hl 0 rfl) ?_
      obtain ⟨w10017, ew10017, h⟩ := zbdE h
      refine zr_v (zr_runV (As := []) S hX hE (kX4_blame l D tc lo ad fr zq w10013 w10017 ew10017) zyX4_blame qm_X4_47 zcl_X4 rfl (zc_36 w10013) ⟨rfl, rfl⟩ ⟨Nat.le_of_ble_eq_true rfl, Nat.le_of_ble_eq_true rfl⟩ rfl hl.1 rfl (Nat.le_of_ble_eq_true rfl) dX4_findFault_72 ⟨Nat.zero_le _, Nat.zero_le _⟩) hE (fun H locs hE => ?_)
      refine lv_aload_n hx hb dX4_findFault_75 rfl (lv_at hl 0 rfl) ?_
      obtain ⟨x10018, ex10018, h⟩ := zbdE h
      refine zr_getI S hK hE zcl_X4 (zc_36 w10017) 6 (Nat.le_of_ble_eq_true rfl) rfl qf_X4_28 dX4_findFault_76 ex10018 ?_
      exact zr_iret S hE hr hlk h dX4_findFault_79
  · have h := zif' c10011 h
    refine lv_aload_n hx hb dX4_findFault_44 rfl (lv_at hl 0 rfl) ?_
    obtain ⟨w10019, ew10019, h⟩ := zbdE h
    refine zr_v (zr_runV (As := []) S hX hE (kX4_blame l D tc lo ad fr zq w10009 w10019 ew10019) zyX4_blame qm_X4_47 zcl_X4 rfl (zc_36 w10009) ⟨rfl, rfl⟩ ⟨Nat.le_of_ble_eq_true rfl, Nat.le_of_ble_eq_true rfl⟩ rfl hl.1 rfl (Nat.le_of_ble_eq_true rfl) dX4_findFault_45 ⟨Nat.zero_le _, Nat.zero_le _⟩) hE (fun H locs hE => ?_)
    refine lv_aload_n hx hb dX4_findFault_48 rfl (lv_at hl 0 rfl) ?_
    obtain ⟨x10020, ex10020, h⟩ := zbdE h
    refine zr_getI S hK hE zcl_X4 (zc_36 w10019) 6 (Nat.le_of_ble_eq_true rfl) rfl qf_X4_28 dX4_findFault_49 ex10020 ?_
    exact zr_iret S hE hr hlk h dX4_findFault_52
set_option maxHeartbeats 4000000 in
set_option maxRecDepth 100000 in
theorem kX6_shape (l : Launch) (D : va_G) (tc : Nat → ClassId) (lo : Nat) (ad : Nat → Nat) (fr : va_W) (zq : zz_Q) (b : Nat) (a1 : Int32) (a2 : Int32) (a3 : Int32) (w : zz_W) (w_ : zz_W) (h : fX6_shape b a1 a2 a3 w = some w_) : zMv l yX6_shape cX6_shape 4 none { frames := 3, cells := 0, slots := 0, locals := 68 } D tc lo ad zshC znnC fr zq [.ref (ad b), .int a1, .int a2, .int a3] w w_ := by
  refine zr_entry (by decide) (Nat.le_of_ble_eq_true rfl) fun p e s m args below meth c ls S hX hr hlk hE hl => ?_
  have S : CallFix p m c cX6_shape 4 s args (Cond.code yX6_shape cX6_shape 4 none :: zw_tb) RX6 := S
  have hx := S.1
  have hb := S.2.1
  have hK := hX.2.1
  have hl : lv_has ls 4 [(0, .ref (ad b)), (1, .int a1), (2, .int a2), (3, .int a3)] := hl
  unfold fX6_shape at h
  obtain ⟨hgb, h⟩ := zgrdE h
  refine lv_aload_n hx hb dX6_shape_0 rfl (lv_at hl 0 rfl) ?_
  refine zr_getA S hK hE zcl_X6 (zcW0 hgb w) 0 (Nat.le_of_ble_eq_true rfl) (q := b + 1) rfl qf_X6_9 dX6_shape_1 ?_
  refine lv_iload_n hx hb dX6_shape_4 rfl (lv_at hl 1 rfl) ?_
  refine lv_iload_n hx hb dX6_shape_5 rfl (lv_at hl 2 rfl) ?_
  obtain ⟨w10001, ew10001, h⟩ := zbdE h
  refine zr_iast S hK hE (zcW1 hgb w) dX6_shape_6 ew10001 (fun H locs hE => ?_)
  refine lv_aload_n hx hb dX6_shape_7 rfl (lv_at hl 0 rfl) ?_
  refine zr_getA S hK hE zcl_X6 (zcW0 hgb w10001) 1 (Nat.le_of_ble_eq_true rfl) (q := b + 2) rfl qf_X6_15 dX6_shape_8 ?_
  refine lv_iload_n hx hb dX6_shape_11 rfl (lv_at hl 1 rfl) ?_
  refine lv_iload_n hx hb dX6_shape_12 rfl (lv_at hl 3 rfl) ?_
  obtain ⟨w10002, ew10002, h⟩ := zbdE h
  refine zr_iast S hK hE (zcW2 hgb w10001) dX6_shape_13 ew10002 (fun H locs hE => ?_)
  refine lv_aload_n hx hb dX6_shape_14 rfl (lv_at hl 0 rfl) ?_
  refine zr_getA S hK hE zcl_X6 (zcW0 hgb w10002) 5 (Nat.le_of_ble_eq_true rfl) (q := b + 6) rfl qf_X6_27 dX6_shape_15 ?_
  refine lv_iload_n hx hb dX6_shape_18 rfl (lv_at hl 1 rfl) ?_
  refine lv_iload_n hx hb dX6_shape_19 rfl (lv_at hl 2 rfl) ?_
  refine lv_iload_n hx hb dX6_shape_20 rfl (lv_at hl 3 rfl) ?_
  obtain ⟨x10003, w10004, ew10004, h⟩ := zbd2E h
  refine zr_l (zr_runS (As := [.int a2, .int a3]) S hX hE (kX0_cellsOf l D tc lo ad fr zq a2 a3 w10002 x10003 w10004 ew10004) zyX0_cellsOf qm_X6_83 ⟨rfl, rfl⟩ ⟨Nat.le_of_ble_eq_true rfl, Nat.le_of_ble_eq_true rfl⟩ rfl hl.1 rfl (Nat.le_of_ble_eq_true rfl) dX6_shape_21 ⟨Nat.zero_le _, Nat.zero_le _⟩) hE (fun H locs hE => ?_)
  obtain ⟨w10005, ew10005, h⟩ := zbdE h
  refine zr_last S hK hE (zcW6 hgb w10004) dX6_shape_24 ew10005 (fun H locs hE => ?_)
  exact zr_vret S hE hr hlk h dX6_shape_25
set_option maxHeartbeats 4000000 in
set_option maxRecDepth 100000 in
theorem kX6_addRun (l : Launch) (D : va_G) (tc : Nat → ClassId) (lo : Nat) (ad : Nat → Nat) (fr : va_W) (zq : zz_Q) (b : Nat) (a1 : Int32) (a2 : Int32) (a3 : Int32) (a4 : Int32) (w : zz_W) (w_ : zz_W) (h : fX6_addRun b a1 a2 a3 a4 w = some w_) : zMv l yX6_addRun cX6_addRun 5 none { frames := 4, cells := 0, slots := 0, locals := 91 } D tc lo ad zshC znnC fr zq [.ref (ad b), .int a1, .int a2, .int a3, .int a4] w w_ := by
  refine zr_entry (by decide) (Nat.le_of_ble_eq_true rfl) fun p e s m args below meth c ls S hX hr hlk hE hl => ?_
  have S : CallFix p m c cX6_addRun 5 s args (Cond.code yX6_addRun cX6_addRun 5 none :: zw_tb) RX6 := S
  have hx := S.1
  have hb := S.2.1
  have hK := hX.2.1
  have hl : lv_has ls 5 [(0, .ref (ad b)), (1, .int a1), (2, .int a2), (3, .int a3), (4, .int a4)] := hl
  unfold fX6_addRun at h
  obtain ⟨hgb, h⟩ := zgrdE h
  refine lv_aload_n hx hb dX6_addRun_0 rfl (lv_at hl 0 rfl) ?_
  obtain ⟨x10001, ex10001, h⟩ := zbdE h
  refine zr_getI S hK hE zcl_X6 (zcW0 hgb w) 9 (Nat.le_of_ble_eq_true rfl) rfl qf_X6_62 dX6_addRun_1 ex10001 ?_
  refine lv_bipush (v := 10) hx hb dX6_addRun_4 (by decide) ?_
  refine lv_icmp_lt (tgt := 10) hx hb dX6_addRun_6 (by decide) (fun c10002 => ?_) (fun c10002 => ?_)
  · have h := zif c10002 h
    refine lv_aload_n hx hb dX6_addRun_10 rfl (lv_at hl 0 rfl) ?_
    refine zr_getA S hK hE zcl_X6 (zcW0 hgb w) 2 (Nat.le_of_ble_eq_true rfl) (q := b + 3) rfl qf_X6_18 dX6_addRun_11 ?_
    refine lv_aload_n hx hb dX6_addRun_14 rfl (lv_at hl 0 rfl) ?_
    obtain ⟨x10003, ex10003, h⟩ := zbdE h
    refine zr_getI S hK hE zcl_X6 (zcW0 hgb w) 9 (Nat.le_of_ble_eq_true rfl) rfl qf_X6_62 dX6_addRun_15 ex10003 ?_
    refine lv_iload_n hx hb dX6_addRun_18 rfl (lv_at hl 3 rfl) ?_
    obtain ⟨w10004, ew10004, h⟩ := zbdE h
    refine zr_iast S hK hE (zcW3 hgb w) dX6_addRun_19 ew10004 (fun H locs hE => ?_)
    refine lv_aload_n hx hb dX6_addRun_20 rfl (lv_at hl 0 rfl) ?_
    refine zr_getA S hK hE zcl_X6 (zcW0 hgb w10004) 3 (Nat.le_of_ble_eq_true rfl) (q := b + 4) rfl qf_X6_21 dX6_addRun_21 ?_
    refine lv_aload_n hx hb dX6_addRun_24 rfl (lv_at hl 0 rfl) ?_
    obtain ⟨x10005, ex10005, h⟩ := zbdE h
    refine zr_getI S hK hE zcl_X6 (zcW0 hgb w10004) 9 (Nat.le_of_ble_eq_true rfl) rfl qf_X6_62 dX6_addRun_25 ex10005 ?_
    refine lv_iload hx hb dX6_addRun_28 (lv_at hl 4 rfl) ?_
    obtain ⟨w10006, ew10006, h⟩ := zbdE h
    refine zr_iast S hK hE (zcW4 hgb w10004) dX6_addRun_30 ew10006 (fun H locs hE => ?_)
    refine lv_aload_n hx hb dX6_addRun_31 rfl (lv_at hl 0 rfl) ?_
    refine zr_getA S hK hE zcl_X6 (zcW0 hgb w10006) 4 (Nat.le_of_ble_eq_true rfl) (q := b + 5) rfl qf_X6_24 dX6_addRun_32 ?_
    refine lv_aload_n hx hb dX6_addRun_35 rfl (lv_at hl 0 rfl) ?_
    obtain ⟨x10007, ex10007, h⟩ := zbdE h
    refine zr_getI S hK hE zcl_X6 (zcW0 hgb w10006) 9 (Nat.le_of_ble_eq_true rfl) rfl qf_X6_62 dX6_addRun_36 ex10007 ?_
    refine lv_iload_n hx hb dX6_addRun_39 rfl (lv_at hl 3 rfl) ?_
    refine lv_sipush (v := 1000) hx hb dX6_addRun_40 (by decide) ?_
    refine lv_imul hx hb dX6_addRun_43 ?_
    obtain ⟨w10008, ew10008, h⟩ := zbdE h
    refine zr_iast S hK hE (zcW5 hgb w10006) dX6_addRun_44 ew10008 (fun H locs hE => ?_)
    refine lv_aload_n hx hb dX6_addRun_45 rfl (lv_at hl 0 rfl) ?_
    refine lv_aload_n hx hb dX6_addRun_46 rfl (lv_at hl 0 rfl) ?_
    obtain ⟨x10009, ex10009, h⟩ := zbdE h
    refine zr_getI S hK hE zcl_X6 (zcW0 hgb w10008) 9 (Nat.le_of_ble_eq_true rfl) rfl qf_X6_62 dX6_addRun_47 ex10009 ?_
    refine lv_iload_n hx hb dX6_addRun_50 rfl (lv_at hl 1 rfl) ?_
    refine lv_iload_n hx hb dX6_addRun_51 rfl (lv_at hl 2 rfl) ?_
    obtain ⟨w10010, ew10010, h⟩ := zbdE h
    refine zr_v (zr_runV (As := [.int x10009, .int a1, .int a2]) S hX hE (kX6_shape l D tc lo ad fr zq b x10009 a1 a2 w10008 w10010 ew10010) zyX6_shape qm_X6_79 zcl_X6 rfl (zcW0 hgb w10008) ⟨rfl, rfl⟩ ⟨Nat.le_of_ble_eq_true rfl, Nat.le_of_ble_eq_true rfl⟩ rfl hl.1 rfl (Nat.le_of_ble_eq_true rfl) dX6_addRun_52 ⟨Nat.zero_le _, Nat.zero_le _⟩) hE (fun H locs hE => ?_)
    refine lv_aload_n hx hb dX6_addRun_55 rfl (lv_at hl 0 rfl) ?_
    refine lv_dup hx hb dX6_addRun_56 rfl ?_
    obtain ⟨x10011, ex10011, h⟩ := zbdE h
    refine zr_getI S hK hE zcl_X6 (zcW0 hgb w10010) 9 (Nat.le_of_ble_eq_true rfl) rfl qf_X6_62 dX6_addRun_57 ex10011 ?_
    refine lv_iconst (v := 1) hx hb dX6_addRun_60 (by decide) ?_
    refine lv_iadd hx hb dX6_addRun_61 ?_
    obtain ⟨w10012, ew10012, h⟩ := zbdE h
    refine zr_putI S hK hE zcl_X6 (zcW0 hgb w10010) 9 (Nat.le_of_ble_eq_true rfl) rfl rfl rfl qf_X6_62 dX6_addRun_62 ew10012 (fun H locs hE => ?_)
    exact zr_vret S hE hr hlk h dX6_addRun_65
  · have h := zif' c10002 h
    exact zr_vret S hE hr hlk h dX6_addRun_9
set_option maxHeartbeats 4000000 in
set_option maxRecDepth 100000 in
theorem kX6_addText (l : Launch) (D : va_G) (tc : Nat → ClassId) (lo : Nat) (ad : Nat → Nat) (fr : va_W) (zq : zz_Q) (b : Nat) (a1 : Nat) (w : zz_W) (w_ : zz_W) (h : fX6_addText b a1 w = some w_) : zMv l yX6_addText cX6_addText 2 none { frames := 0, cells := 0, slots := 0, locals := 0 } D tc lo ad zshC znnC fr zq [.ref (ad b), .ref (ad a1)] w w_ := by
  refine zr_entry (by decide) (Nat.le_of_ble_eq_true rfl) fun p e s m args below meth c ls S hX hr hlk hE hl => ?_
  have S : CallFix p m c cX6_addText 2 s args (Cond.code yX6_addText cX6_addText 2 none :: zw_tb) RX6 := S
  have hx := S.1
  have hb := S.2.1
  have hK := hX.2.1
  have hl : lv_has ls 2 [(0, .ref (ad b)), (1, .ref (ad a1))] := hl
  unfold fX6_addText at h
  obtain ⟨hgb, h⟩ := zgrdE h
  refine lv_aload_n hx hb dX6_addText_0 rfl (lv_at hl 0 rfl) ?_
  obtain ⟨x10001, ex10001, h⟩ := zbdE h
  refine zr_getI S hK hE zcl_X6 (zcW0 hgb w) 15 (Nat.le_of_ble_eq_true rfl) rfl qf_X6_68 dX6_addText_1 ex10001 ?_
  refine lv_bipush (v := 14) hx hb dX6_addText_4 (by decide) ?_
  refine lv_icmp_lt (tgt := 10) hx hb dX6_addText_6 (by decide) (fun c10002 => ?_) (fun c10002 => ?_)
  · have h := zif c10002 h
    refine lv_aload_n hx hb dX6_addText_10 rfl (lv_at hl 0 rfl) ?_
    refine zr_getA S hK hE zcl_X6 (zcW0 hgb w) 7 (Nat.le_of_ble_eq_true rfl) (q := b + 8) rfl qf_X6_36 dX6_addText_11 ?_
    refine lv_aload_n hx hb dX6_addText_14 rfl (lv_at hl 0 rfl) ?_
    obtain ⟨x10003, ex10003, h⟩ := zbdE h
    refine zr_getI S hK hE zcl_X6 (zcW0 hgb w) 15 (Nat.le_of_ble_eq_true rfl) rfl qf_X6_68 dX6_addText_15 ex10003 ?_
    refine lv_aload_n hx hb dX6_addText_18 rfl (lv_at hl 1 rfl) ?_
    obtain ⟨hg10004, h⟩ := zgrdE h
    obtain ⟨w10005, ew10005, h⟩ := zbdE h
    refine zr_rast S hK hE (zcW8 hgb w) (zcT0 (w := w) hg10004) dX6_addText_19 ew10005 (fun H locs hE => ?_)
    refine lv_aload_n hx hb dX6_addText_20 rfl (lv_at hl 0 rfl) ?_
    refine zr_getA S hK hE zcl_X6 (zcW0 hgb w10005) 8 (Nat.le_of_ble_eq_true rfl) (q := b + 9) rfl qf_X6_40 dX6_addText_21 ?_
    refine lv_aload_n hx hb dX6_addText_24 rfl (lv_at hl 1 rfl) ?_
    obtain ⟨hg10006, h⟩ := zgrdE h
    obtain ⟨x10007, ex10007, h⟩ := zbdE h
    refine zr_getI S hK hE zcl_X5 (zcT0 (w := w10005) hg10006) 0 (Nat.le_of_ble_eq_true rfl) rfl qf_X6_164 dX6_addText_25 ex10007 ?_
    refine lv_aload_n hx hb dX6_addText_28 rfl (lv_at hl 0 rfl) ?_
    obtain ⟨x10008, ex10008, h⟩ := zbdE h
    refine zr_getI S hK hE zcl_X6 (zcW0 hgb w10005) 15 (Nat.le_of_ble_eq_true rfl) rfl qf_X6_68 dX6_addText_29 ex10008 ?_
    obtain ⟨w10009, ew10009, h⟩ := zbdE h
    refine zr_iast S hK hE (zcW9 hgb w10005) dX6_addText_32 ew10009 (fun H locs hE => ?_)
    refine lv_aload_n hx hb dX6_addText_33 rfl (lv_at hl 0 rfl) ?_
    refine lv_dup hx hb dX6_addText_34 rfl ?_
    obtain ⟨x10010, ex10010, h⟩ := zbdE h
    refine zr_getI S hK hE zcl_X6 (zcW0 hgb w10009) 15 (Nat.le_of_ble_eq_true rfl) rfl qf_X6_68 dX6_addText_35 ex10010 ?_
    refine lv_iconst (v := 1) hx hb dX6_addText_38 (by decide) ?_
    refine lv_iadd hx hb dX6_addText_39 ?_
    obtain ⟨w10011, ew10011, h⟩ := zbdE h
    refine zr_putI S hK hE zcl_X6 (zcW0 hgb w10009) 15 (Nat.le_of_ble_eq_true rfl) rfl rfl rfl qf_X6_68 dX6_addText_40 ew10011 (fun H locs hE => ?_)
    exact zr_vret S hE hr hlk h dX6_addText_43
  · have h := zif' c10002 h
    exact zr_vret S hE hr hlk h dX6_addText_9
set_option maxHeartbeats 4000000 in
set_option maxRecDepth 100000 in
theorem kX6_forget (l : Launch) (D : va_G) (tc : Nat → ClassId) (lo : Nat) (ad : Nat → Nat) (fr : va_W) (zq : zz_Q) (b : Nat) (w : zz_W) (w_ : zz_W) (h : fX6_forget b w = some w_) : zMv l yX6_forget cX6_forget 2 none { frames := 0, cells := 0, slots := 0, locals := 0 } D tc lo ad zshC znnC fr zq [.ref (ad b)] w w_ := by
  refine zr_entry (by decide) (Nat.le_of_ble_eq_true rfl) fun p e s m args below meth c ls S hX hr hlk hE hl => ?_
  have S : CallFix p m c cX6_forget 2 s args (Cond.code yX6_forget cX6_forget 2 none :: zw_tb) RX6 := S
  have hx := S.1
  have hb := S.2.1
  have hK := hX.2.1
  have hl : lv_has ls 2 [(0, .ref (ad b))] := hl
  unfold fX6_forget at h
  obtain ⟨hgb, h⟩ := zgrdE h
  have L2 : ∀ (n : Nat) (l1 : Int32) (w : zz_W) (ls : Array Slot) (H : Heap) (locs : List Loc), fX6_forget_2 b n l1 w = some w_ → lv_has ls 2 [(0, .ref (ad b)), (1, .int l1)] → zE D tc lo ad zshC znnC fr w s.heap H locs → W p l e { frames := 0, cells := 0, slots := 0, locals := 0 } s m args below meth c H locs 0 0 (zZv D tc lo ad zshC znnC fr below args s w_) (F0 m 2 ls []) := by
    intro n2
    induction n2 with
    | zero => intro l1 w ls H locs h hl hE; rw [fX6_forget_2] at h; cases h
    | succ n2 ih2 =>
      intro l1 w ls H locs h hl hE
      rw [fX6_forget_2] at h
      refine lv_iload_n hx hb dX6_forget_2 rfl (lv_at hl 1 rfl) ?_
      refine lv_aload_n hx hb dX6_forget_3 rfl (lv_at hl 0 rfl) ?_
      obtain ⟨x15, ex15, h⟩ := zbdE h
      refine zr_getI S hK hE zcl_X6 (zcW0 hgb w) 9 (Nat.le_of_ble_eq_true rfl) rfl qf_X6_62 dX6_forget_4 ex15 ?_
      refine lv_icmp_ge (tgt := 32) hx hb dX6_forget_7 (by decide) (fun c16 => ?_) (fun c16 => ?_)
      · have h := zif c16 h
        refine lv_aload_n hx hb dX6_forget_32 rfl (lv_at hl 0 rfl) ?_
        refine zr_getA S hK hE zcl_X6 (zcW0 hgb w) 6 (Nat.le_of_ble_eq_true rfl) (q := b + 7) rfl qf_X6_31 dX6_forget_33 ?_
        refine lv_bipush (v := 6) hx hb dX6_forget_36 (by decide) ?_
        refine lv_dup2_11 hx hb dX6_forget_38 rfl rfl ?_
        obtain ⟨x17, ex17, h⟩ := zbdE h
        refine zr_iald S hK hE (zcW7 hgb w) dX6_forget_39 ex17 ?_
        refine lv_iconst (v := 1) hx hb dX6_forget_40 (by decide) ?_
        refine lv_iadd hx hb dX6_forget_41 ?_
        obtain ⟨w18, ew18, h⟩ := zbdE h
        refine zr_iast S hK hE (zcW7 hgb w) dX6_forget_42 ew18 (fun H locs hE => ?_)
        exact zr_vret S hE hr hlk h dX6_forget_43
      · have h := zif' c16 h
        refine lv_aload_n hx hb dX6_forget_10 rfl (lv_at hl 0 rfl) ?_
        refine zr_getA S hK hE zcl_X6 (zcW0 hgb w) 4 (Nat.le_of_ble_eq_true rfl) (q := b + 5) rfl qf_X6_24 dX6_forget_11 ?_
        refine lv_iload_n hx hb dX6_forget_14 rfl (lv_at hl 1 rfl) ?_
        refine lv_aload_n hx hb dX6_forget_15 rfl (lv_at hl 0 rfl) ?_
        refine zr_getA S hK hE zcl_X6 (zcW0 hgb w) 2 (Nat.le_of_ble_eq_true rfl) (q := b + 3) rfl qf_X6_18 dX6_forget_16 ?_
        refine lv_iload_n hx hb dX6_forget_19 rfl (lv_at hl 1 rfl) ?_
        obtain ⟨x19, ex19, h⟩ := zbdE h
        refine zr_iald S hK hE (zcW3 hgb w) dX6_forget_20 ex19 ?_
        refine lv_sipush (v := 1000) hx hb dX6_forget_21 (by decide) ?_
        refine lv_imul hx hb dX6_forget_24 ?_
        obtain ⟨w20, ew20, h⟩ := zbdE h
        refine zr_iast S hK hE (zcW5 hgb w) dX6_forget_25 ew20 (fun H locs hE => ?_)
        obtain ⟨x21, ex21, h⟩ := zbdE h
        refine lv_iinc (v := x21) (lv' := [(1, .int x21), (0, .ref (ad b))]) hx hb dX6_forget_26 hl (k := 1) rfl (zinc (k := 1) (by decide) ex21) (by decide) rfl (fun ls hl => ?_)
        refine lv_goto (tgt := 2) hx hb dX6_forget_29 (by decide) ?_
        exact ih2 x21 w20 ls _ _ h (lv_sub hl [1, 0] rfl) hE
  refine lv_iconst (v := 0) hx hb dX6_forget_0 (by decide) ?_
  refine lv_istore_n (lv' := [(1, .int 0), (0, .ref (ad b))]) hx hb dX6_forget_1 rfl hl (by decide) rfl (fun ls hl => ?_)
  exact L2 zfuel 0 w ls _ _ h (lv_sub hl [1, 0] rfl) hE
set_option maxHeartbeats 4000000 in
set_option maxRecDepth 100000 in
theorem kX6_changeOdds (l : Launch) (D : va_G) (tc : Nat → ClassId) (lo : Nat) (ad : Nat → Nat) (fr : va_W) (zq : zz_Q) (b : Nat) (a1 : Int32) (a2 : Int32) (a3 : Int32) (w : zz_W) (w_ : zz_W) (h : fX6_changeOdds b a1 a2 a3 w = some w_) : zMv l yX6_changeOdds cX6_changeOdds 6 none { frames := 2, cells := 0, slots := 0, locals := 48 } D tc lo ad zshC znnC fr zq [.ref (ad b), .int a1, .int a2, .int a3] w w_ := by
  refine zr_entry (by decide) (Nat.le_of_ble_eq_true rfl) fun p e s m args below meth c ls S hX hr hlk hE hl => ?_
  have S : CallFix p m c cX6_changeOdds 6 s args (Cond.code yX6_changeOdds cX6_changeOdds 6 none :: zw_tb) RX6 := S
  have hx := S.1
  have hb := S.2.1
  have hK := hX.2.1
  have hl : lv_has ls 6 [(0, .ref (ad b)), (1, .int a1), (2, .int a2), (3, .int a3)] := hl
  unfold fX6_changeOdds at h
  obtain ⟨hgb, h⟩ := zgrdE h
  have L6 : ∀ (n : Nat) (l1 : Int32) (l2 : Int32) (l3 : Int32) (l4 : Int32) (l5 : Int32) (w : zz_W) (ls : Array Slot) (H : Heap) (locs : List Loc), fX6_changeOdds_6 b a1 a2 a3 n l1 l2 l3 l4 l5 w = some w_ → lv_has ls 6 [(0, .ref (ad b)), (1, .int l1), (2, .int l2), (3, .int l3), (4, .int l4), (5, .int l5)] → zE D tc lo ad zshC znnC fr w s.heap H locs → W p l e { frames := 2, cells := 0, slots := 0, locals := 48 } s m args below meth c H locs 0 0 (zZv D tc lo ad zshC znnC fr below args s w_) (F0 m 6 ls []) := by
    intro n6
    induction n6 with
    | zero => intro l1 l2 l3 l4 l5 w ls H locs h hl hE; rw [fX6_changeOdds_6] at h; cases h
    | succ n6 ih6 =>
      intro l1 l2 l3 l4 l5 w ls H locs h hl hE
      rw [fX6_changeOdds_6] at h
      have J47 : ∀ (l1 : Int32) (l2 : Int32) (l3 : Int32) (l4 : Int32) (l5 : Int32) (s1 : Int32) (s2 : Int32) (s4 : Int32) (s5 : Int32) (w : zz_W) (ls : Array Slot) (H : Heap) (locs : List Loc), fX6_changeOdds_47 b a1 a2 a3 (fX6_changeOdds_6 b a1 a2 a3 n6) l1 l2 l3 l4 l5 s1 s2 s4 s5 w = some w_ → lv_has ls 6 [(0, .ref (ad b)), (1, .int l1), (2, .int l2), (3, .int l3), (4, .int l4), (5, .int l5)] → zE D tc lo ad zshC znnC fr w s.heap H locs → W p l e { frames := 2, cells := 0, slots := 0, locals := 48 } s m args below meth c H locs 0 0 (zZv D tc lo ad zshC znnC fr below args s w_) (F0 m 47 ls [.int s5, .int s4, .ref (ad b), .int s2, .int s1, .ref (ad (b + 5))]) := by
        intro l1 l2 l3 l4 l5 s1 s2 s4 s5 w ls H locs h hl hE
        unfold fX6_changeOdds_47 at h
        obtain ⟨x31, w32, ew32, h⟩ := zbd2E h
        refine zr_i (zr_runV (As := [.int s4, .int s5]) S hX hE (kX6_ofHundred l D tc lo ad fr zq b s4 s5 w x31 w32 ew32) zyX6_ofHundred qm_X6_116 zcl_X6 rfl (zcW0 hgb w) ⟨rfl, rfl⟩ ⟨Nat.le_of_ble_eq_true rfl, Nat.le_of_ble_eq_true rfl⟩ rfl hl.1 rfl (Nat.le_of_ble_eq_true rfl) dX6_changeOdds_47 ⟨Nat.zero_le _, Nat.zero_le _⟩) hE (fun H locs hE => ?_)
        refine lv_imul hx hb dX6_changeOdds_50 ?_
        refine lv_bipush (v := 100) hx hb dX6_changeOdds_51 (by decide) ?_
        obtain ⟨x33, ex33, h⟩ := zbdE h
        refine zr_idiv hx hb dX6_changeOdds_53 ex33 ?_
        obtain ⟨w34, ew34, h⟩ := zbdE h
        refine zr_iast S hK hE (zcW5 hgb w32) dX6_changeOdds_54 ew34 (fun H locs hE => ?_)
        refine lv_iload hx hb dX6_changeOdds_55 (lv_at hl 4 rfl) ?_
        refine lv_aload_n hx hb dX6_changeOdds_57 rfl (lv_at hl 0 rfl) ?_
        refine zr_getA S hK hE zcl_X6 (zcW0 hgb w34) 4 (Nat.le_of_ble_eq_true rfl) (q := b + 5) rfl qf_X6_24 dX6_changeOdds_58 ?_
        refine lv_iload hx hb dX6_changeOdds_61 (lv_at hl 5 rfl) ?_
        obtain ⟨x35, ex35, h⟩ := zbdE h
        refine zr_iald S hK hE (zcW5 hgb w34) dX6_changeOdds_63 ex35 ?_
        refine lv_iadd hx hb dX6_changeOdds_64 ?_
        obtain ⟨x36, ex36, h⟩ := zbdE h
        refine zr_topi ex36 ?_
        refine lv_istore (lv' := [(4, .int x36), (0, .ref (ad b)), (1, .int l1), (2, .int l2), (3, .int l3), (5, .int l5)]) hx hb dX6_changeOdds_65 hl (by decide) rfl (fun ls hl => ?_)
        obtain ⟨x37, ex37, h⟩ := zbdE h
        refine lv_iinc (v := x37) (lv' := [(5, .int x37), (4, .int x36), (0, .ref (ad b)), (1, .int l1), (2, .int l2), (3, .int l3)]) hx hb dX6_changeOdds_67 hl (k := 5) rfl (zinc (k := 1) (by decide) ex37) (by decide) rfl (fun ls hl => ?_)
        refine lv_goto (tgt := 6) hx hb dX6_changeOdds_70 (by decide) ?_
        exact ih6 l1 l2 l3 x36 x37 w34 ls _ _ h (lv_sub hl [2, 3, 4, 5, 1, 0] rfl) hE
      refine lv_iload hx hb dX6_changeOdds_6 (lv_at hl 5 rfl) ?_
      refine lv_aload_n hx hb dX6_changeOdds_8 rfl (lv_at hl 0 rfl) ?_
      obtain ⟨x38, ex38, h⟩ := zbdE h
      refine zr_getI S hK hE zcl_X6 (zcW0 hgb w) 9 (Nat.le_of_ble_eq_true rfl) rfl qf_X6_62 dX6_changeOdds_9 ex38 ?_
      refine lv_icmp_ge (tgt := 73) hx hb dX6_changeOdds_12 (by decide) (fun c39 => ?_) (fun c39 => ?_)
      · have h := zif c39 h
        refine lv_iload hx hb dX6_changeOdds_73 (lv_at hl 4 rfl) ?_
        refine lv_if_ne (tgt := 82) hx hb dX6_changeOdds_75 (by decide) (fun c40 => ?_) (fun c40 => ?_)
        · have h := zif' c40 h
          exact zr_vret S hE hr hlk h dX6_changeOdds_82
        · have h := zif c40 h
          refine lv_aload_n hx hb dX6_changeOdds_78 rfl (lv_at hl 0 rfl) ?_
          obtain ⟨w41, ew41, h⟩ := zbdE h
          refine zr_v (zr_runV (As := []) S hX hE (kX6_forget l D tc lo ad fr zq b w w41 ew41) zyX6_forget qm_X6_120 zcl_X6 rfl (zcW0 hgb w) ⟨rfl, rfl⟩ ⟨Nat.le_of_ble_eq_true rfl, Nat.le_of_ble_eq_true rfl⟩ rfl hl.1 rfl (Nat.le_of_ble_eq_true rfl) dX6_changeOdds_79 ⟨Nat.zero_le _, Nat.zero_le _⟩) hE (fun H locs hE => ?_)
          exact zr_vret S hE hr hlk h dX6_changeOdds_82
      · have h := zif' c39 h
        refine lv_aload_n hx hb dX6_changeOdds_15 rfl (lv_at hl 0 rfl) ?_
        refine zr_getA S hK hE zcl_X6 (zcW0 hgb w) 4 (Nat.le_of_ble_eq_true rfl) (q := b + 5) rfl qf_X6_24 dX6_changeOdds_16 ?_
        refine lv_iload hx hb dX6_changeOdds_19 (lv_at hl 5 rfl) ?_
        refine lv_aload_n hx hb dX6_changeOdds_21 rfl (lv_at hl 0 rfl) ?_
        refine zr_getA S hK hE zcl_X6 (zcW0 hgb w) 4 (Nat.le_of_ble_eq_true rfl) (q := b + 5) rfl qf_X6_24 dX6_changeOdds_22 ?_
        refine lv_iload hx hb dX6_changeOdds_25 (lv_at hl 5 rfl) ?_
        obtain ⟨x42, ex42, h⟩ := zbdE h
        refine zr_iald S hK hE (zcW5 hgb w) dX6_changeOdds_27 ex42 ?_
        refine lv_aload_n hx hb dX6_changeOdds_28 rfl (lv_at hl 0 rfl) ?_
        refine lv_iload_n hx hb dX6_changeOdds_29 rfl (lv_at hl 1 rfl) ?_
        refine lv_aload_n hx hb dX6_changeOdds_30 rfl (lv_at hl 0 rfl) ?_
        refine lv_iload hx hb dX6_changeOdds_31 (lv_at hl 5 rfl) ?_
        refine lv_iload_n hx hb dX6_changeOdds_33 rfl (lv_at hl 1 rfl) ?_
        refine lv_iload_n hx hb dX6_changeOdds_34 rfl (lv_at hl 2 rfl) ?_
        obtain ⟨x43, w44, ew44, h⟩ := zbd2E h
        refine zr_i (zr_runV (As := [.int l5, .int l1, .int l2]) S hX hE (kX6_wouldTell l D tc lo ad fr zq b l5 l1 l2 w x43 w44 ew44) zyX6_wouldTell qm_X6_106 zcl_X6 rfl (zcW0 hgb w) ⟨rfl, rfl⟩ ⟨Nat.le_of_ble_eq_true rfl, Nat.le_of_ble_eq_true rfl⟩ rfl hl.1 rfl (Nat.le_of_ble_eq_true rfl) dX6_changeOdds_35 ⟨Nat.zero_le _, Nat.zero_le _⟩) hE (fun H locs hE => ?_)
        refine lv_iload_n hx hb dX6_changeOdds_38 rfl (lv_at hl 3 rfl) ?_
        refine lv_icmp_ne (tgt := 46) hx hb dX6_changeOdds_39 (by decide) (fun c45 => ?_) (fun c45 => ?_)
        · have h := zif' c45 h
          refine lv_iconst (v := 0) hx hb dX6_changeOdds_46 (by decide) ?_
          exact J47 l1 l2 l3 l4 l5 l5 x42 l1 0 w44 ls _ _ h (lv_sub hl [0, 1, 2, 3, 4, 5] rfl) hE
        · have h := zif c45 h
          refine lv_iconst (v := 1) hx hb dX6_changeOdds_42 (by decide) ?_
          refine lv_goto (tgt := 47) hx hb dX6_changeOdds_43 (by decide) ?_
          exact J47 l1 l2 l3 l4 l5 l5 x42 l1 1 w44 ls _ _ h (lv_sub hl [0, 1, 2, 3, 4, 5] rfl) hE
  refine lv_iconst (v := 0) hx hb dX6_changeOdds_0 (by decide) ?_
  refine lv_istore (lv' := [(4, .int 0), (0, .ref (ad b)), (1, .int a1), (2, .int a2), (3, .int a3)]) hx hb dX6_changeOdds_1 hl (by decide) rfl (fun ls hl => ?_)
  refine lv_iconst (v := 0) hx hb dX6_changeOdds_3 (by decide) ?_
  refine lv_istore (lv' := [(5, .int 0), (4, .int 0), (0, .ref (ad b)), (1, .int a1), (2, .int a2), (3, .int a3)]) hx hb dX6_changeOdds_4 hl (by decide) rfl (fun ls hl => ?_)
  exact L6 zfuel a1 a2 a3 0 0 w ls _ _ h (lv_sub hl [2, 3, 4, 5, 1, 0] rfl) hE
set_option maxHeartbeats 4000000 in
set_option maxRecDepth 100000 in
theorem kX6_draw (l : Launch) (D : va_G) (tc : Nat → ClassId) (lo : Nat) (ad : Nat → Nat) (fr : va_W) (zq : zz_Q) (b : Nat) (w : zz_W) (r : Int32) (w_ : zz_W) (h : fX6_draw b w = some (r, w_)) : zMi l yX6_draw cX6_draw 1 (some .int) { frames := 0, cells := 0, slots := 0, locals := 0 } D tc lo ad zshC znnC fr zq [.ref (ad b)] w r w_ := by
  refine zr_entry (by decide) (Nat.le_of_ble_eq_true rfl) fun p e s m args below meth c ls S hX hr hlk hE hl => ?_
  have S : CallFix p m c cX6_draw 1 s args (Cond.code yX6_draw cX6_draw 1 (some .int) :: zw_tb) RX6 := S
  have hx := S.1
  have hb := S.2.1
  have hK := hX.2.1
  have hl : lv_has ls 1 [(0, .ref (ad b))] := hl
  unfold fX6_draw at h
  obtain ⟨hgb, h⟩ := zgrdE h
  refine lv_aload_n hx hb dX6_draw_0 rfl (lv_at hl 0 rfl) ?_
  refine lv_aload_n hx hb dX6_draw_1 rfl (lv_at hl 0 rfl) ?_
  obtain ⟨x10001, ex10001, h⟩ := zbdE h
  refine zr_getI S hK hE zcl_X6 (zcW0 hgb w) 14 (Nat.le_of_ble_eq_true rfl) rfl qf_X6_53 dX6_draw_2 ex10001 ?_
  refine zr_ldc S qc_X6_97 dX6_draw_5 ?_
  refine lv_imul hx hb dX6_draw_7 ?_
  refine lv_sipush (v := 12345) hx hb dX6_draw_8 (by decide) ?_
  refine lv_iadd hx hb dX6_draw_11 ?_
  obtain ⟨w10002, ew10002, h⟩ := zbdE h
  refine zr_putI S hK hE zcl_X6 (zcW0 hgb w) 14 (Nat.le_of_ble_eq_true rfl) rfl rfl rfl qf_X6_53 dX6_draw_12 ew10002 (fun H locs hE => ?_)
  refine lv_aload_n hx hb dX6_draw_15 rfl (lv_at hl 0 rfl) ?_
  obtain ⟨x10003, ex10003, h⟩ := zbdE h
  refine zr_getI S hK hE zcl_X6 (zcW0 hgb w10002) 14 (Nat.le_of_ble_eq_true rfl) rfl qf_X6_53 dX6_draw_16 ex10003 ?_
  refine lv_bipush (v := 8) hx hb dX6_draw_19 (by decide) ?_
  refine lv_iushr hx hb dX6_draw_21 rfl ?_
  exact zr_iret S hE hr hlk h dX6_draw_22
set_option maxHeartbeats 4000000 in
set_option maxRecDepth 100000 in
theorem kX6_chooseTrue (l : Launch) (D : va_G) (tc : Nat → ClassId) (lo : Nat) (ad : Nat → Nat) (fr : va_W) (zq : zz_Q) (b : Nat) (w : zz_W) (w_ : zz_W) (h : fX6_chooseTrue b w = some w_) : zMv l yX6_chooseTrue cX6_chooseTrue 4 none { frames := 1, cells := 0, slots := 0, locals := 20 } D tc lo ad zshC znnC fr zq [.ref (ad b)] w w_ := by
  refine zr_entry (by decide) (Nat.le_of_ble_eq_true rfl) fun p e s m args below meth c ls S hX hr hlk hE hl => ?_
  have S : CallFix p m c cX6_chooseTrue 4 s args (Cond.code yX6_chooseTrue cX6_chooseTrue 4 none :: zw_tb) RX6 := S
  have hx := S.1
  have hb := S.2.1
  have hK := hX.2.1
  have hl : lv_has ls 4 [(0, .ref (ad b))] := hl
  unfold fX6_chooseTrue at h
  obtain ⟨hgb, h⟩ := zgrdE h
  have L41 : ∀ (n : Nat) (l2 : Int32) (l3 : Int32) (w : zz_W) (ls : Array Slot) (H : Heap) (locs : List Loc), fX6_chooseTrue_41 b n l2 l3 w = some w_ → lv_has ls 4 [(0, .ref (ad b)), (2, .int l2), (3, .int l3)] → zE D tc lo ad zshC znnC fr w s.heap H locs → W p l e { frames := 1, cells := 0, slots := 0, locals := 20 } s m args below meth c H locs 0 0 (zZv D tc lo ad zshC znnC fr below args s w_) (F0 m 41 ls []) := by
    intro n41
    induction n41 with
    | zero => intro l2 l3 w ls H locs h hl hE; rw [fX6_chooseTrue_41] at h; cases h
    | succ n41 ih41 =>
      intro l2 l3 w ls H locs h hl hE
      rw [fX6_chooseTrue_41] at h
      refine lv_iload_n hx hb dX6_chooseTrue_41 rfl (lv_at hl 2 rfl) ?_
      refine lv_aload_n hx hb dX6_chooseTrue_42 rfl (lv_at hl 0 rfl) ?_
      obtain ⟨x33, ex33, h⟩ := zbdE h
      refine zr_getI S hK hE zcl_X6 (zcW0 hgb w) 9 (Nat.le_of_ble_eq_true rfl) rfl qf_X6_62 dX6_chooseTrue_43 ex33 ?_
      refine lv_icmp_ge (tgt := 74) hx hb dX6_chooseTrue_46 (by decide) (fun c34 => ?_) (fun c34 => ?_)
      · have h := zif c34 h
        exact zr_vret S hE hr hlk h dX6_chooseTrue_74
      · have h := zif' c34 h
        refine lv_iload_n hx hb dX6_chooseTrue_49 rfl (lv_at hl 1 rfl) ?_
        refine lv_aload_n hx hb dX6_chooseTrue_50 rfl (lv_at hl 0 rfl) ?_
        refine zr_getA S hK hE zcl_X6 (zcW0 hgb w) 2 (Nat.le_of_ble_eq_true rfl) (q := b + 3) rfl qf_X6_18 dX6_chooseTrue_51 ?_
        refine lv_iload_n hx hb dX6_chooseTrue_54 rfl (lv_at hl 2 rfl) ?_
        obtain ⟨x35, ex35, h⟩ := zbdE h
        refine zr_iald S hK hE (zcW3 hgb w) dX6_chooseTrue_55 ex35 ?_
        refine lv_isub hx hb dX6_chooseTrue_56 ?_
        obtain ⟨x36, ex36, h⟩ := zbdE h
        refine zr_topi ex36 ?_
        refine lv_istore_n (lv' := [(2, .int x36), (0, .ref (ad b)), (3, .int l3)]) hx hb dX6_chooseTrue_57 rfl hl (by decide) rfl (fun ls hl => ?_)
        refine lv_iload_n hx hb dX6_chooseTrue_58 rfl (lv_at hl 0 rfl) ?_
        refine lv_if_ge (tgt := 68) hx hb dX6_chooseTrue_59 (by decide) (fun c37 => ?_) (fun c37 => ?_)
        · have h := zif c37 h
          obtain ⟨x38, ex38, h⟩ := zbdE h
          refine lv_iinc (v := x38) (lv' := [(3, .int x38), (2, .int x36), (0, .ref (ad b))]) hx hb dX6_chooseTrue_68 hl (k := 2) rfl (zinc (k := 1) (by decide) ex38) (by decide) rfl (fun ls hl => ?_)
          refine lv_goto (tgt := 41) hx hb dX6_chooseTrue_71 (by decide) ?_
          exact ih41 x36 x38 w ls _ _ h (lv_sub hl [2, 1, 0] rfl) hE
        · have h := zif' c37 h
          refine lv_aload_n hx hb dX6_chooseTrue_62 rfl (lv_at hl 1 rfl) ?_
          refine lv_iload_n hx hb dX6_chooseTrue_63 rfl (lv_at hl 2 rfl) ?_
          obtain ⟨w39, ew39, h⟩ := zbdE h
          refine zr_putI S hK hE zcl_X6 (zcW0 hgb w) 10 (Nat.le_of_ble_eq_true rfl) rfl rfl rfl qf_X6_43 dX6_chooseTrue_64 ew39 (fun H locs hE => ?_)
          exact zr_vret S hE hr hlk h dX6_chooseTrue_67
  have L4 : ∀ (n : Nat) (l1 : Int32) (l2 : Int32) (w : zz_W) (ls : Array Slot) (H : Heap) (locs : List Loc), fX6_chooseTrue_4 b n l1 l2 w = some w_ → lv_has ls 4 [(0, .ref (ad b)), (1, .int l1), (2, .int l2)] → zE D tc lo ad zshC znnC fr w s.heap H locs → W p l e { frames := 1, cells := 0, slots := 0, locals := 20 } s m args below meth c H locs 0 0 (zZv D tc lo ad zshC znnC fr below args s w_) (F0 m 4 ls []) := by
    intro n4
    induction n4 with
    | zero => intro l1 l2 w ls H locs h hl hE; rw [fX6_chooseTrue_4] at h; cases h
    | succ n4 ih4 =>
      intro l1 l2 w ls H locs h hl hE
      rw [fX6_chooseTrue_4] at h
      refine lv_iload_n hx hb dX6_chooseTrue_4 rfl (lv_at hl 2 rfl) ?_
      refine lv_aload_n hx hb dX6_chooseTrue_5 rfl (lv_at hl 0 rfl) ?_
      obtain ⟨x40, ex40, h⟩ := zbdE h
      refine zr_getI S hK hE zcl_X6 (zcW0 hgb w) 9 (Nat.le_of_ble_eq_true rfl) rfl qf_X6_62 dX6_chooseTrue_6 ex40 ?_
      refine lv_icmp_ge (tgt := 27) hx hb dX6_chooseTrue_9 (by decide) (fun c41 => ?_) (fun c41 => ?_)
      · have h := zif c41 h
        refine lv_iload_n hx hb dX6_chooseTrue_27 rfl (lv_at hl 1 rfl) ?_
        refine lv_if_gt (tgt := 32) hx hb dX6_chooseTrue_28 (by decide) (fun c42 => ?_) (fun c42 => ?_)
        · have h := zif c42 h
          refine lv_aload_n hx hb dX6_chooseTrue_32 rfl (lv_at hl 0 rfl) ?_
          obtain ⟨x43, w44, ew44, h⟩ := zbd2E h
          refine zr_i (zr_runV (As := []) S hX hE (kX6_draw l D tc lo ad fr zq b w x43 w44 ew44) zyX6_draw qm_X6_89 zcl_X6 rfl (zcW0 hgb w) ⟨rfl, rfl⟩ ⟨Nat.le_of_ble_eq_true rfl, Nat.le_of_ble_eq_true rfl⟩ rfl hl.1 rfl (Nat.le_of_ble_eq_true rfl) dX6_chooseTrue_33 ⟨Nat.zero_le _, Nat.zero_le _⟩) hE (fun H locs hE => ?_)
          refine lv_iload_n hx hb dX6_chooseTrue_36 rfl (lv_at hl 1 rfl) ?_
          obtain ⟨x45, ex45, h⟩ := zbdE h
          refine zr_irem hx hb dX6_chooseTrue_37 ex45 ?_
          refine lv_istore_n (lv' := [(2, .int x45), (0, .ref (ad b)), (1, .int l1)]) hx hb dX6_chooseTrue_38 rfl hl (by decide) rfl (fun ls hl => ?_)
          refine lv_iconst (v := 0) hx hb dX6_chooseTrue_39 (by decide) ?_
          refine lv_istore_n (lv' := [(3, .int 0), (2, .int x45), (0, .ref (ad b)), (1, .int l1)]) hx hb dX6_chooseTrue_40 rfl hl (by decide) rfl (fun ls hl => ?_)
          exact L41 zfuel x45 0 w44 ls _ _ h (lv_sub hl [2, 1, 0] rfl) hE
        · have h := zif' c42 h
          exact zr_vret S hE hr hlk h dX6_chooseTrue_31
      · have h := zif' c41 h
        refine lv_iload_n hx hb dX6_chooseTrue_12 rfl (lv_at hl 1 rfl) ?_
        refine lv_aload_n hx hb dX6_chooseTrue_13 rfl (lv_at hl 0 rfl) ?_
        refine zr_getA S hK hE zcl_X6 (zcW0 hgb w) 2 (Nat.le_of_ble_eq_true rfl) (q := b + 3) rfl qf_X6_18 dX6_chooseTrue_14 ?_
        refine lv_iload_n hx hb dX6_chooseTrue_17 rfl (lv_at hl 2 rfl) ?_
        obtain ⟨x46, ex46, h⟩ := zbdE h
        refine zr_iald S hK hE (zcW3 hgb w) dX6_chooseTrue_18 ex46 ?_
        refine lv_iadd hx hb dX6_chooseTrue_19 ?_
        obtain ⟨x47, ex47, h⟩ := zbdE h
        refine zr_topi ex47 ?_
        refine lv_istore_n (lv' := [(1, .int x47), (0, .ref (ad b)), (2, .int l2)]) hx hb dX6_chooseTrue_20 rfl hl (by decide) rfl (fun ls hl => ?_)
        obtain ⟨x48, ex48, h⟩ := zbdE h
        refine lv_iinc (v := x48) (lv' := [(2, .int x48), (1, .int x47), (0, .ref (ad b))]) hx hb dX6_chooseTrue_21 hl (k := 2) rfl (zinc (k := 1) (by decide) ex48) (by decide) rfl (fun ls hl => ?_)
        refine lv_goto (tgt := 4) hx hb dX6_chooseTrue_24 (by decide) ?_
        exact ih4 x47 x48 w ls _ _ h (lv_sub hl [2, 1, 0] rfl) hE
  refine lv_iconst (v := 0) hx hb dX6_chooseTrue_0 (by decide) ?_
  refine lv_istore_n (lv' := [(1, .int 0), (0, .ref (ad b))]) hx hb dX6_chooseTrue_1 rfl hl (by decide) rfl (fun ls hl => ?_)
  refine lv_iconst (v := 0) hx hb dX6_chooseTrue_2 (by decide) ?_
  refine lv_istore_n (lv' := [(2, .int 0), (1, .int 0), (0, .ref (ad b))]) hx hb dX6_chooseTrue_3 rfl hl (by decide) rfl (fun ls hl => ?_)
  exact L4 zfuel 0 0 w ls _ _ h (lv_sub hl [2, 1, 0] rfl) hE
set_option maxHeartbeats 4000000 in
set_option maxRecDepth 100000 in
theorem kX6_drawRun (l : Launch) (D : va_G) (tc : Nat → ClassId) (lo : Nat) (ad : Nat → Nat) (fr : va_W) (zq : zz_Q) (b : Nat) (w : zz_W) (w_ : zz_W) (h : fX6_drawRun b w = some w_) : zMv l yX6_drawRun cX6_drawRun 4 none { frames := 5, cells := 0, slots := 0, locals := 115 } D tc lo ad zshC znnC fr zq [.ref (ad b)] w w_ := by
  refine zr_entry (by decide) (Nat.le_of_ble_eq_true rfl) fun p e s m args below meth c ls S hX hr hlk hE hl => ?_
  have S : CallFix p m c cX6_drawRun 4 s args (Cond.code yX6_drawRun cX6_drawRun 4 none :: zw_tb) RX6 := S
  have hx := S.1
  have hb := S.2.1
  have hK := hX.2.1
  have hl : lv_has ls 4 [(0, .ref (ad b))] := hl
  unfold fX6_drawRun at h
  obtain ⟨hgb, h⟩ := zgrdE h
  refine lv_aload_n hx hb dX6_drawRun_0 rfl (lv_at hl 0 rfl) ?_
  obtain ⟨x10001, w10002, ew10002, h⟩ := zbd2E h
  refine zr_i (zr_runV (As := []) S hX hE (kX6_draw l D tc lo ad fr zq b w x10001 w10002 ew10002) zyX6_draw qm_X6_89 zcl_X6 rfl (zcW0 hgb w) ⟨rfl, rfl⟩ ⟨Nat.le_of_ble_eq_true rfl, Nat.le_of_ble_eq_true rfl⟩ rfl hl.1 rfl (Nat.le_of_ble_eq_true rfl) dX6_drawRun_1 ⟨Nat.zero_le _, Nat.zero_le _⟩) hE (fun H locs hE => ?_)
  refine lv_bipush (v := 6) hx hb dX6_drawRun_4 (by decide) ?_
  obtain ⟨x10003, ex10003, h⟩ := zbdE h
  refine zr_irem hx hb dX6_drawRun_6 ex10003 ?_
  refine lv_istore_n (lv' := [(1, .int x10003), (0, .ref (ad b))]) hx hb dX6_drawRun_7 rfl hl (by decide) rfl (fun ls hl => ?_)
  refine lv_aload_n hx hb dX6_drawRun_8 rfl (lv_at hl 1 rfl) ?_
  obtain ⟨x10004, w10005, ew10005, h⟩ := zbd2E h
  refine zr_i (zr_runV (As := []) S hX hE (kX6_draw l D tc lo ad fr zq b w10002 x10004 w10005 ew10005) zyX6_draw qm_X6_89 zcl_X6 rfl (zcW0 hgb w10002) ⟨rfl, rfl⟩ ⟨Nat.le_of_ble_eq_true rfl, Nat.le_of_ble_eq_true rfl⟩ rfl hl.1 rfl (Nat.le_of_ble_eq_true rfl) dX6_drawRun_9 ⟨Nat.zero_le _, Nat.zero_le _⟩) hE (fun H locs hE => ?_)
  refine lv_bipush (v := 36) hx hb dX6_drawRun_12 (by decide) ?_
  obtain ⟨x10006, ex10006, h⟩ := zbdE h
  refine zr_irem hx hb dX6_drawRun_14 ex10006 ?_
  refine lv_istore_n (lv' := [(2, .int x10006), (1, .int x10003), (0, .ref (ad b))]) hx hb dX6_drawRun_15 rfl hl (by decide) rfl (fun ls hl => ?_)
  refine lv_iconst (v := 1) hx hb dX6_drawRun_16 (by decide) ?_
  refine lv_aload_n hx hb dX6_drawRun_17 rfl (lv_at hl 2 rfl) ?_
  obtain ⟨x10007, w10008, ew10008, h⟩ := zbd2E h
  refine zr_i (zr_runV (As := []) S hX hE (kX6_draw l D tc lo ad fr zq b w10005 x10007 w10008 ew10008) zyX6_draw qm_X6_89 zcl_X6 rfl (zcW0 hgb w10005) ⟨rfl, rfl⟩ ⟨Nat.le_of_ble_eq_true rfl, Nat.le_of_ble_eq_true rfl⟩ rfl hl.1 rfl (Nat.le_of_ble_eq_true rfl) dX6_drawRun_18 ⟨Nat.zero_le _, Nat.zero_le _⟩) hE (fun H locs hE => ?_)
  refine lv_bipush (v := 40) hx hb dX6_drawRun_21 (by decide) ?_
  obtain ⟨x10009, ex10009, h⟩ := zbdE h
  refine zr_irem hx hb dX6_drawRun_23 ex10009 ?_
  refine lv_iadd hx hb dX6_drawRun_24 ?_
  obtain ⟨x10010, ex10010, h⟩ := zbdE h
  refine zr_topi ex10010 ?_
  refine lv_istore_n (lv' := [(3, .int x10010), (2, .int x10006), (1, .int x10003), (0, .ref (ad b))]) hx hb dX6_drawRun_25 rfl hl (by decide) rfl (fun ls hl => ?_)
  refine lv_aload_n hx hb dX6_drawRun_26 rfl (lv_at hl 3 rfl) ?_
  refine lv_iload_n hx hb dX6_drawRun_27 rfl (lv_at hl 2 rfl) ?_
  refine lv_iload_n hx hb dX6_drawRun_28 rfl (lv_at hl 1 rfl) ?_
  refine lv_iload_n hx hb dX6_drawRun_29 rfl (lv_at hl 0 rfl) ?_
  refine lv_iconst (v := 1) hx hb dX6_drawRun_30 (by decide) ?_
  refine lv_aload_n hx hb dX6_drawRun_31 rfl (lv_at hl 3 rfl) ?_
  obtain ⟨x10011, w10012, ew10012, h⟩ := zbd2E h
  refine zr_i (zr_runV (As := []) S hX hE (kX6_draw l D tc lo ad fr zq b w10008 x10011 w10012 ew10012) zyX6_draw qm_X6_89 zcl_X6 rfl (zcW0 hgb w10008) ⟨rfl, rfl⟩ ⟨Nat.le_of_ble_eq_true rfl, Nat.le_of_ble_eq_true rfl⟩ rfl hl.1 rfl (Nat.le_of_ble_eq_true rfl) dX6_drawRun_32 ⟨Nat.zero_le _, Nat.zero_le _⟩) hE (fun H locs hE => ?_)
  refine lv_bipush (v := 9) hx hb dX6_drawRun_35 (by decide) ?_
  obtain ⟨x10013, ex10013, h⟩ := zbdE h
  refine zr_irem hx hb dX6_drawRun_37 ex10013 ?_
  refine lv_iadd hx hb dX6_drawRun_38 ?_
  obtain ⟨w10014, ew10014, h⟩ := zbdE h
  refine zr_v (zr_runV (As := [.int x10003, .int x10006, .int x10010, .int (1 + x10013)]) S hX hE (kX6_addRun l D tc lo ad fr zq b x10003 x10006 x10010 (1 + x10013) w10012 w10014 ew10014) zyX6_addRun qm_X6_93 zcl_X6 rfl (zcW0 hgb w10012) ⟨rfl, rfl⟩ ⟨Nat.le_of_ble_eq_true rfl, Nat.le_of_ble_eq_true rfl⟩ rfl hl.1 rfl (Nat.le_of_ble_eq_true rfl) dX6_drawRun_39 ⟨Nat.zero_le _, Nat.zero_le _⟩) hE (fun H locs hE => ?_)
  exact zr_vret S hE hr hlk h dX6_drawRun_42
set_option maxHeartbeats 4000000 in
set_option maxRecDepth 100000 in
theorem kX6_drillAt (l : Launch) (D : va_G) (tc : Nat → ClassId) (lo : Nat) (ad : Nat → Nat) (fr : va_W) (zq : zz_Q) (b : Nat) (a1 : Int32) (a2 : Int32) (w : zz_W) (r : Int32) (w_ : zz_W) (h : fX6_drillAt b a1 a2 w = some (r, w_)) : zMi l yX6_drillAt cX6_drillAt 4 (some .int) { frames := 4, cells := 0, slots := 0, locals := 97 } D tc lo ad zshC znnC fr zq [.ref (ad b), .int a1, .int a2] w r w_ := by
  refine zr_entry (by decide) (Nat.le_of_ble_eq_true rfl) fun p e s m args below meth c ls S hX hr hlk hE hl => ?_
  have S : CallFix p m c cX6_drillAt 4 s args (Cond.code yX6_drillAt cX6_drillAt 4 (some .int) :: zw_tb) RX6 := S
  have hx := S.1
  have hb := S.2.1
  have hK := hX.2.1
  have hl : lv_has ls 4 [(0, .ref (ad b)), (1, .int a1), (2, .int a2)] := hl
  unfold fX6_drillAt at h
  obtain ⟨hgb, h⟩ := zgrdE h
  refine lv_aload_n hx hb dX6_drillAt_0 rfl (lv_at hl 0 rfl) ?_
  refine zr_getA S hK hE zcl_X6 (zcW0 hgb w) 6 (Nat.le_of_ble_eq_true rfl) (q := b + 7) rfl qf_X6_31 dX6_drillAt_1 ?_
  refine lv_iconst (v := 2) hx hb dX6_drillAt_4 (by decide) ?_
  refine lv_dup2_11 hx hb dX6_drillAt_5 rfl rfl ?_
  obtain ⟨x10001, ex10001, h⟩ := zbdE h
  refine zr_iald S hK hE (zcW7 hgb w) dX6_drillAt_6 ex10001 ?_
  refine lv_iconst (v := 1) hx hb dX6_drillAt_7 (by decide) ?_
  refine lv_iadd hx hb dX6_drillAt_8 ?_
  obtain ⟨w10002, ew10002, h⟩ := zbdE h
  refine zr_iast S hK hE (zcW7 hgb w) dX6_drillAt_9 ew10002 (fun H locs hE => ?_)
  refine lv_aload_n hx hb dX6_drillAt_10 rfl (lv_at hl 0 rfl) ?_
  refine zr_getA S hK hE zcl_X6 (zcW0 hgb w10002) 5 (Nat.le_of_ble_eq_true rfl) (q := b + 6) rfl qf_X6_27 dX6_drillAt_11 ?_
  refine lv_aload_n hx hb dX6_drillAt_14 rfl (lv_at hl 0 rfl) ?_
  obtain ⟨x10003, ex10003, h⟩ := zbdE h
  refine zr_getI S hK hE zcl_X6 (zcW0 hgb w10002) 10 (Nat.le_of_ble_eq_true rfl) rfl qf_X6_43 dX6_drillAt_15 ex10003 ?_
  obtain ⟨x10004, ex10004, h⟩ := zbdE h
  refine zr_lald S hK hE (zcW6 hgb w10002) dX6_drillAt_18 ex10004 ?_
  refine lv_iload_n hx hb dX6_drillAt_19 rfl (lv_at hl 1 rfl) ?_
  obtain ⟨x10005, w10006, ew10006, h⟩ := zbd2E h
  refine zr_i (zr_runS (As := [.long x10004, .int a1]) S hX hE (kX0_has l D tc lo ad fr zq x10004 a1 w10002 x10005 w10006 ew10006) zyX0_has qm_X6_102 ⟨rfl, rfl⟩ ⟨Nat.le_of_ble_eq_true rfl, Nat.le_of_ble_eq_true rfl⟩ rfl hl.1 rfl (Nat.le_of_ble_eq_true rfl) dX6_drillAt_20 ⟨Nat.zero_le _, Nat.zero_le _⟩) hE (fun H locs hE => ?_)
  refine lv_if_eq (tgt := 39) hx hb dX6_drillAt_23 (by decide) (fun c10007 => ?_) (fun c10007 => ?_)
  · have h := zif c10007 h
    refine lv_iconst (v := 0) hx hb dX6_drillAt_39 (by decide) ?_
    exact zr_iret S hE hr hlk h dX6_drillAt_40
  · have h := zif' c10007 h
    refine lv_aload_n hx hb dX6_drillAt_26 rfl (lv_at hl 0 rfl) ?_
    refine zr_getA S hK hE zcl_X6 (zcW0 hgb w10006) 3 (Nat.le_of_ble_eq_true rfl) (q := b + 4) rfl qf_X6_21 dX6_drillAt_27 ?_
    refine lv_aload_n hx hb dX6_drillAt_30 rfl (lv_at hl 0 rfl) ?_
    obtain ⟨x10008, ex10008, h⟩ := zbdE h
    refine zr_getI S hK hE zcl_X6 (zcW0 hgb w10006) 10 (Nat.le_of_ble_eq_true rfl) rfl qf_X6_43 dX6_drillAt_31 ex10008 ?_
    obtain ⟨x10009, ex10009, h⟩ := zbdE h
    refine zr_iald S hK hE (zcW4 hgb w10006) dX6_drillAt_34 ex10009 ?_
    refine lv_iload_n hx hb dX6_drillAt_35 rfl (lv_at hl 2 rfl) ?_
    refine lv_icmp_le (tgt := 41) hx hb dX6_drillAt_36 (by decide) (fun c10010 => ?_) (fun c10010 => ?_)
    · have h := zif c10010 h
      refine lv_aload_n hx hb dX6_drillAt_41 rfl (lv_at hl 0 rfl) ?_
      refine lv_aload_n hx hb dX6_drillAt_42 rfl (lv_at hl 0 rfl) ?_
      obtain ⟨x10011, ex10011, h⟩ := zbdE h
      refine zr_getI S hK hE zcl_X6 (zcW0 hgb w10006) 10 (Nat.le_of_ble_eq_true rfl) rfl qf_X6_43 dX6_drillAt_43 ex10011 ?_
      obtain ⟨x10012, w10013, ew10013, h⟩ := zbd2E h
      refine zr_i (zr_runV (As := [.int x10011]) S hX hE (kX6_hurtOf l D tc lo ad fr zq b x10011 w10006 x10012 w10013 ew10013) zyX6_hurtOf qm_X6_123 zcl_X6 rfl (zcW0 hgb w10006) ⟨rfl, rfl⟩ ⟨Nat.le_of_ble_eq_true rfl, Nat.le_of_ble_eq_true rfl⟩ rfl hl.1 rfl (Nat.le_of_ble_eq_true rfl) dX6_drillAt_46 ⟨Nat.zero_le _, Nat.zero_le _⟩) hE (fun H locs hE => ?_)
      refine lv_istore_n (lv' := [(3, .int x10012), (0, .ref (ad b)), (1, .int a1), (2, .int a2)]) hx hb dX6_drillAt_49 rfl hl (by decide) rfl (fun ls hl => ?_)
      refine lv_aload_n hx hb dX6_drillAt_50 rfl (lv_at hl 1 rfl) ?_
      refine zr_getA S hK hE zcl_X6 (zcW0 hgb w10013) 6 (Nat.le_of_ble_eq_true rfl) (q := b + 7) rfl qf_X6_31 dX6_drillAt_51 ?_
      refine lv_iconst (v := 1) hx hb dX6_drillAt_54 (by decide) ?_
      refine lv_dup2_11 hx hb dX6_drillAt_55 rfl rfl ?_
      obtain ⟨x10014, ex10014, h⟩ := zbdE h
      refine zr_iald S hK hE (zcW7 hgb w10013) dX6_drillAt_56 ex10014 ?_
      refine lv_iconst (v := 1) hx hb dX6_drillAt_57 (by decide) ?_
      refine lv_iadd hx hb dX6_drillAt_58 ?_
      obtain ⟨w10015, ew10015, h⟩ := zbdE h
      refine zr_iast S hK hE (zcW7 hgb w10013) dX6_drillAt_59 ew10015 (fun H locs hE => ?_)
      refine lv_aload_n hx hb dX6_drillAt_60 rfl (lv_at hl 1 rfl) ?_
      refine zr_getA S hK hE zcl_X6 (zcW0 hgb w10015) 6 (Nat.le_of_ble_eq_true rfl) (q := b + 7) rfl qf_X6_31 dX6_drillAt_61 ?_
      refine lv_iconst (v := 0) hx hb dX6_drillAt_64 (by decide) ?_
      refine lv_dup2_11 hx hb dX6_drillAt_65 rfl rfl ?_
      obtain ⟨x10016, ex10016, h⟩ := zbdE h
      refine zr_iald S hK hE (zcW7 hgb w10015) dX6_drillAt_66 ex10016 ?_
      refine lv_iload_n hx hb dX6_drillAt_67 rfl (lv_at hl 0 rfl) ?_
      refine lv_iadd hx hb dX6_drillAt_68 ?_
      obtain ⟨w10017, ew10017, h⟩ := zbdE h
      refine zr_iast S hK hE (zcW7 hgb w10015) dX6_drillAt_69 ew10017 (fun H locs hE => ?_)
      refine lv_iload_n hx hb dX6_drillAt_70 rfl (lv_at hl 0 rfl) ?_
      exact zr_iret S hE hr hlk h dX6_drillAt_71
    · have h := zif' c10010 h
      refine lv_iconst (v := 0) hx hb dX6_drillAt_39 (by decide) ?_
      exact zr_iret S hE hr hlk h dX6_drillAt_40
set_option maxHeartbeats 4000000 in
set_option maxRecDepth 100000 in
theorem kX6_isRun (l : Launch) (D : va_G) (tc : Nat → ClassId) (lo : Nat) (ad : Nat → Nat) (fr : va_W) (zq : zz_Q) (b : Nat) (a1 : Int32) (w : zz_W) (r : Int32) (w_ : zz_W) (h : fX6_isRun b a1 w = some (r, w_)) : zMi l yX6_isRun cX6_isRun 2 (some .boolean) { frames := 1, cells := 0, slots := 0, locals := 22 } D tc lo ad zshC znnC fr zq [.ref (ad b), .int a1] w r w_ := by
  refine zr_entry (by decide) (Nat.le_of_ble_eq_true rfl) fun p e s m args below meth c ls S hX hr hlk hE hl => ?_
  have S : CallFix p m c cX6_isRun 2 s args (Cond.code yX6_isRun cX6_isRun 2 (some .boolean) :: zw_tb) RX6 := S
  have hx := S.1
  have hb := S.2.1
  have hK := hX.2.1
  have hl : lv_has ls 2 [(0, .ref (ad b)), (1, .int a1)] := hl
  unfold fX6_isRun at h
  obtain ⟨hgb, h⟩ := zgrdE h
  refine lv_iload_n hx hb dX6_isRun_0 rfl (lv_at hl 1 rfl) ?_
  refine lv_iconst (v := 0) hx hb dX6_isRun_1 (by decide) ?_
  refine lv_aload_n hx hb dX6_isRun_2 rfl (lv_at hl 0 rfl) ?_
  obtain ⟨x10001, ex10001, h⟩ := zbdE h
  refine zr_getI S hK hE zcl_X6 (zcW0 hgb w) 9 (Nat.le_of_ble_eq_true rfl) rfl qf_X6_62 dX6_isRun_3 ex10001 ?_
  refine lv_iconst (v := 1) hx hb dX6_isRun_6 (by decide) ?_
  refine lv_isub hx hb dX6_isRun_7 ?_
  obtain ⟨x10002, w10003, ew10003, h⟩ := zbd2E h
  refine zr_i (zr_runSN (As := [.int a1, .int 0, .int (x10001 - 1)]) S hX hE (kX7_within l D tc lo ad fr zq a1 0 (x10001 - 1) w x10002 w10003 ew10003) zyX7_within qn_X6_71 ⟨rfl, rfl⟩ ⟨Nat.le_of_ble_eq_true rfl, Nat.le_of_ble_eq_true rfl⟩ rfl hl.1 rfl (Nat.le_of_ble_eq_true rfl) dX6_isRun_8 ⟨Nat.zero_le _, Nat.zero_le _⟩) hE (fun H locs hE => ?_)
  obtain ⟨x10004, ex10004, h⟩ := zbdE h
  obtain ⟨ezx10004, enx10004⟩ := zboo_in ex10004
  refine zr_topi (congrArg some ezx10004) ?_
  exact zr_zret S hE hr hlk enx10004 h dX6_isRun_11
set_option maxHeartbeats 4000000 in
set_option maxRecDepth 100000 in
theorem kX6_isBuilt (l : Launch) (D : va_G) (tc : Nat → ClassId) (lo : Nat) (ad : Nat → Nat) (fr : va_W) (zq : zz_Q) (b : Nat) (w : zz_W) (r : Int32) (w_ : zz_W) (h : fX6_isBuilt b w = some (r, w_)) : zMi l yX6_isBuilt cX6_isBuilt 1 (some .boolean) { frames := 2, cells := 0, slots := 0, locals := 43 } D tc lo ad zshC znnC fr zq [.ref (ad b)] w r w_ := by
  refine zr_entry (by decide) (Nat.le_of_ble_eq_true rfl) fun p e s m args below meth c ls S hX hr hlk hE hl => ?_
  have S : CallFix p m c cX6_isBuilt 1 s args (Cond.code yX6_isBuilt cX6_isBuilt 1 (some .boolean) :: zw_tb) RX6 := S
  have hx := S.1
  have hb := S.2.1
  have hK := hX.2.1
  have hl : lv_has ls 1 [(0, .ref (ad b))] := hl
  unfold fX6_isBuilt at h
  obtain ⟨hgb, h⟩ := zgrdE h
  refine lv_aload_n hx hb dX6_isBuilt_0 rfl (lv_at hl 0 rfl) ?_
  refine lv_aload_n hx hb dX6_isBuilt_1 rfl (lv_at hl 0 rfl) ?_
  obtain ⟨x10001, ex10001, h⟩ := zbdE h
  refine zr_getI S hK hE zcl_X6 (zcW0 hgb w) 10 (Nat.le_of_ble_eq_true rfl) rfl qf_X6_43 dX6_isBuilt_2 ex10001 ?_
  obtain ⟨x10002, w10003, ew10003, h⟩ := zbd2E h
  refine zr_i (zr_runV (As := [.int x10001]) S hX hE (kX6_isRun l D tc lo ad fr zq b x10001 w x10002 w10003 ew10003) zyX6_isRun qm_X6_75 zcl_X6 rfl (zcW0 hgb w) ⟨rfl, rfl⟩ ⟨Nat.le_of_ble_eq_true rfl, Nat.le_of_ble_eq_true rfl⟩ rfl hl.1 rfl (Nat.le_of_ble_eq_true rfl) dX6_isBuilt_5 ⟨Nat.zero_le _, Nat.zero_le _⟩) hE (fun H locs hE => ?_)
  obtain ⟨x10004, ex10004, h⟩ := zbdE h
  obtain ⟨ezx10004, enx10004⟩ := zboo_in ex10004
  refine zr_topi (congrArg some ezx10004) ?_
  exact zr_zret S hE hr hlk enx10004 h dX6_isBuilt_8
set_option maxHeartbeats 4000000 in
set_option maxRecDepth 100000 in
theorem kX6_testAt (l : Launch) (D : va_G) (tc : Nat → ClassId) (lo : Nat) (ad : Nat → Nat) (fr : va_W) (zq : zz_Q) (b : Nat) (a1 : Int32) (a2 : Int32) (w : zz_W) (r : Int32) (w_ : zz_W) (h : fX6_testAt b a1 a2 w = some (r, w_)) : zMi l yX6_testAt cX6_testAt 4 (some .int) { frames := 3, cells := 0, slots := 0, locals := 73 } D tc lo ad zshC znnC fr zq [.ref (ad b), .int a1, .int a2] w r w_ := by
  refine zr_entry (by decide) (Nat.le_of_ble_eq_true rfl) fun p e s m args below meth c ls S hX hr hlk hE hl => ?_
  have S : CallFix p m c cX6_testAt 4 s args (Cond.code yX6_testAt cX6_testAt 4 (some .int) :: zw_tb) RX6 := S
  have hx := S.1
  have hb := S.2.1
  have hK := hX.2.1
  have hl : lv_has ls 4 [(0, .ref (ad b)), (1, .int a1), (2, .int a2)] := hl
  unfold fX6_testAt at h
  obtain ⟨hgb, h⟩ := zgrdE h
  have J44 : ∀ (l1 : Int32) (l2 : Int32) (l3 : Int32) (w : zz_W) (ls : Array Slot) (H : Heap) (locs : List Loc), fX6_testAt_44 b a1 a2 l1 l2 l3 w = some (r, w_) → lv_has ls 4 [(0, .ref (ad b)), (1, .int l1), (2, .int l2), (3, .int l3)] → zE D tc lo ad zshC znnC fr w s.heap H locs → W p l e { frames := 3, cells := 0, slots := 0, locals := 73 } s m args below meth c H locs 0 0 (zZi D tc lo ad zshC znnC fr below args s r w_) (F0 m 44 ls []) := by
    intro l1 l2 l3 w ls H locs h hl hE
    unfold fX6_testAt_44 at h
    refine lv_aload_n hx hb dX6_testAt_44 rfl (lv_at hl 0 rfl) ?_
    refine zr_getA S hK hE zcl_X6 (zcW0 hgb w) 6 (Nat.le_of_ble_eq_true rfl) (q := b + 7) rfl qf_X6_31 dX6_testAt_45 ?_
    refine lv_iconst (v := 3) hx hb dX6_testAt_48 (by decide) ?_
    refine lv_dup2_11 hx hb dX6_testAt_49 rfl rfl ?_
    obtain ⟨x37, ex37, h⟩ := zbdE h
    refine zr_iald S hK hE (zcW7 hgb w) dX6_testAt_50 ex37 ?_
    refine lv_iconst (v := 1) hx hb dX6_testAt_51 (by decide) ?_
    refine lv_iadd hx hb dX6_testAt_52 ?_
    obtain ⟨w38, ew38, h⟩ := zbdE h
    refine zr_iast S hK hE (zcW7 hgb w) dX6_testAt_53 ew38 (fun H locs hE => ?_)
    refine lv_aload_n hx hb dX6_testAt_54 rfl (lv_at hl 0 rfl) ?_
    refine zr_getA S hK hE zcl_X6 (zcW0 hgb w38) 6 (Nat.le_of_ble_eq_true rfl) (q := b + 7) rfl qf_X6_31 dX6_testAt_55 ?_
    refine lv_iconst (v := 5) hx hb dX6_testAt_58 (by decide) ?_
    refine lv_dup2_11 hx hb dX6_testAt_59 rfl rfl ?_
    obtain ⟨x39, ex39, h⟩ := zbdE h
    refine zr_iald S hK hE (zcW7 hgb w38) dX6_testAt_60 ex39 ?_
    refine zr_sMINS S hX hE qf_X6_110 dX6_testAt_61 ?_
    refine lv_iload_n hx hb dX6_testAt_64 rfl (lv_at hl 1 rfl) ?_
    obtain ⟨x40, ex40, h⟩ := zbdE h
    refine zr_tMINS S hX hE dX6_testAt_65 ex40 ?_
    refine lv_iadd hx hb dX6_testAt_66 ?_
    obtain ⟨w41, ew41, h⟩ := zbdE h
    refine zr_iast S hK hE (zcW7 hgb w38) dX6_testAt_67 ew41 (fun H locs hE => ?_)
    refine lv_aload_n hx hb dX6_testAt_68 rfl (lv_at hl 0 rfl) ?_
    refine lv_iload_n hx hb dX6_testAt_69 rfl (lv_at hl 1 rfl) ?_
    refine lv_iload_n hx hb dX6_testAt_70 rfl (lv_at hl 2 rfl) ?_
    refine lv_iload_n hx hb dX6_testAt_71 rfl (lv_at hl 3 rfl) ?_
    obtain ⟨w42, ew42, h⟩ := zbdE h
    refine zr_v (zr_runV (As := [.int l1, .int l2, .int l3]) S hX hE (kX6_changeOdds l D tc lo ad fr zq b l1 l2 l3 w41 w42 ew42) zyX6_changeOdds qm_X6_113 zcl_X6 rfl (zcW0 hgb w41) ⟨rfl, rfl⟩ ⟨Nat.le_of_ble_eq_true rfl, Nat.le_of_ble_eq_true rfl⟩ rfl hl.1 rfl (Nat.le_of_ble_eq_true rfl) dX6_testAt_72 ⟨Nat.zero_le _, Nat.zero_le _⟩) hE (fun H locs hE => ?_)
    refine lv_iload_n hx hb dX6_testAt_75 rfl (lv_at hl 3 rfl) ?_
    exact zr_iret S hE hr hlk h dX6_testAt_76
  refine lv_aload_n hx hb dX6_testAt_0 rfl (lv_at hl 0 rfl) ?_
  refine lv_aload_n hx hb dX6_testAt_1 rfl (lv_at hl 0 rfl) ?_
  obtain ⟨x10001, ex10001, h⟩ := zbdE h
  refine zr_getI S hK hE zcl_X6 (zcW0 hgb w) 10 (Nat.le_of_ble_eq_true rfl) rfl qf_X6_43 dX6_testAt_2 ex10001 ?_
  refine lv_iload_n hx hb dX6_testAt_5 rfl (lv_at hl 1 rfl) ?_
  refine lv_iload_n hx hb dX6_testAt_6 rfl (lv_at hl 2 rfl) ?_
  obtain ⟨x10002, w10003, ew10003, h⟩ := zbd2E h
  refine zr_i (zr_runV (As := [.int x10001, .int a1, .int a2]) S hX hE (kX6_wouldTell l D tc lo ad fr zq b x10001 a1 a2 w x10002 w10003 ew10003) zyX6_wouldTell qm_X6_106 zcl_X6 rfl (zcW0 hgb w) ⟨rfl, rfl⟩ ⟨Nat.le_of_ble_eq_true rfl, Nat.le_of_ble_eq_true rfl⟩ rfl hl.1 rfl (Nat.le_of_ble_eq_true rfl) dX6_testAt_7 ⟨Nat.zero_le _, Nat.zero_le _⟩) hE (fun H locs hE => ?_)
  refine lv_istore_n (lv' := [(3, .int x10002), (0, .ref (ad b)), (1, .int a1), (2, .int a2)]) hx hb dX6_testAt_10 rfl hl (by decide) rfl (fun ls hl => ?_)
  refine lv_iload_n hx hb dX6_testAt_11 rfl (lv_at hl 2 rfl) ?_
  refine lv_iconst (v := 3) hx hb dX6_testAt_12 (by decide) ?_
  refine lv_icmp_eq (tgt := 44) hx hb dX6_testAt_13 (by decide) (fun c10004 => ?_) (fun c10004 => ?_)
  · have h := zif c10004 h
    exact J44 a1 a2 x10002 w10003 ls _ _ h (lv_sub hl [1, 2, 3, 0] rfl) hE
  · have h := zif' c10004 h
    refine lv_aload_n hx hb dX6_testAt_16 rfl (lv_at hl 1 rfl) ?_
    obtain ⟨x10005, w10006, ew10006, h⟩ := zbd2E h
    refine zr_i (zr_runV (As := []) S hX hE (kX6_draw l D tc lo ad fr zq b w10003 x10005 w10006 ew10006) zyX6_draw qm_X6_89 zcl_X6 rfl (zcW0 hgb w10003) ⟨rfl, rfl⟩ ⟨Nat.le_of_ble_eq_true rfl, Nat.le_of_ble_eq_true rfl⟩ rfl hl.1 rfl (Nat.le_of_ble_eq_true rfl) dX6_testAt_17 ⟨Nat.zero_le _, Nat.zero_le _⟩) hE (fun H locs hE => ?_)
    refine lv_bipush (v := 100) hx hb dX6_testAt_20 (by decide) ?_
    obtain ⟨x10007, ex10007, h⟩ := zbdE h
    refine zr_irem hx hb dX6_testAt_22 ex10007 ?_
    refine lv_aload_n hx hb dX6_testAt_23 rfl (lv_at hl 1 rfl) ?_
    obtain ⟨x10008, ex10008, h⟩ := zbdE h
    refine zr_getI S hK hE zcl_X6 (zcW0 hgb w10006) 11 (Nat.le_of_ble_eq_true rfl) rfl qf_X6_47 dX6_testAt_24 ex10008 ?_
    refine lv_icmp_ge (tgt := 44) hx hb dX6_testAt_27 (by decide) (fun c10009 => ?_) (fun c10009 => ?_)
    · have h := zif c10009 h
      exact J44 a1 a2 x10002 w10006 ls _ _ h (lv_sub hl [1, 2, 3, 0] rfl) hE
    · have h := zif' c10009 h
      refine lv_iconst (v := 1) hx hb dX6_testAt_30 (by decide) ?_
      refine lv_iload_n hx hb dX6_testAt_31 rfl (lv_at hl 0 rfl) ?_
      refine lv_isub hx hb dX6_testAt_32 ?_
      obtain ⟨x10010, ex10010, h⟩ := zbdE h
      refine zr_topi ex10010 ?_
      refine lv_istore_n (lv' := [(3, .int x10010), (0, .ref (ad b)), (1, .int a1), (2, .int a2)]) hx hb dX6_testAt_33 rfl hl (by decide) rfl (fun ls hl => ?_)
      refine lv_aload_n hx hb dX6_testAt_34 rfl (lv_at hl 1 rfl) ?_
      refine zr_getA S hK hE zcl_X6 (zcW0 hgb w10006) 6 (Nat.le_of_ble_eq_true rfl) (q := b + 7) rfl qf_X6_31 dX6_testAt_35 ?_
      refine lv_iconst (v := 4) hx hb dX6_testAt_38 (by decide) ?_
      refine lv_dup2_11 hx hb dX6_testAt_39 rfl rfl ?_
      obtain ⟨x10011, ex10011, h⟩ := zbdE h
      refine zr_iald S hK hE (zcW7 hgb w10006) dX6_testAt_40 ex10011 ?_
      refine lv_iconst (v := 1) hx hb dX6_testAt_41 (by decide) ?_
      refine lv_iadd hx hb dX6_testAt_42 ?_
      obtain ⟨w10012, ew10012, h⟩ := zbdE h
      refine zr_iast S hK hE (zcW7 hgb w10006) dX6_testAt_43 ew10012 (fun H locs hE => ?_)
      exact J44 a1 a2 x10010 w10012 ls _ _ h (lv_sub hl [1, 2, 3, 0] rfl) hE
set_option maxHeartbeats 4000000 in
set_option maxRecDepth 100000 in
theorem kX6_takeStep (l : Launch) (D : va_G) (tc : Nat → ClassId) (lo : Nat) (ad : Nat → Nat) (fr : va_W) (zq : zz_Q) (b : Nat) (w : zz_W) (w_ : zz_W) (h : fX6_takeStep b w = some w_) : zMv l yX6_takeStep cX6_takeStep 2 none { frames := 4, cells := 0, slots := 0, locals := 96 } D tc lo ad zshC znnC fr zq [.ref (ad b)] w w_ := by
  refine zr_entry (by decide) (Nat.le_of_ble_eq_true rfl) fun p e s m args below meth c ls S hX hr hlk hE hl => ?_
  have S : CallFix p m c cX6_takeStep 2 s args (Cond.code yX6_takeStep cX6_takeStep 2 none :: zw_tb) RX6 := S
  have hx := S.1
  have hb := S.2.1
  have hK := hX.2.1
  have hl : lv_has ls 2 [(0, .ref (ad b))] := hl
  unfold fX6_takeStep at h
  obtain ⟨hgb, h⟩ := zgrdE h
  have J41 : ∀ (w : zz_W) (ls : Array Slot) (H : Heap) (locs : List Loc), fX6_takeStep_41 b w = some w_ → lv_has ls 2 [(0, .ref (ad b))] → zE D tc lo ad zshC znnC fr w s.heap H locs → W p l e { frames := 4, cells := 0, slots := 0, locals := 96 } s m args below meth c H locs 0 0 (zZv D tc lo ad zshC znnC fr below args s w_) (F0 m 41 ls []) := by
    intro w ls H locs h hl hE
    unfold fX6_takeStep_41 at h
    refine lv_aload_n hx hb dX6_takeStep_41 rfl (lv_at hl 0 rfl) ?_
    refine lv_dup hx hb dX6_takeStep_42 rfl ?_
    obtain ⟨x33, ex33, h⟩ := zbdE h
    refine zr_getI S hK hE zcl_X6 (zcW0 hgb w) 13 (Nat.le_of_ble_eq_true rfl) rfl qf_X6_65 dX6_takeStep_43 ex33 ?_
    refine lv_iconst (v := 1) hx hb dX6_takeStep_46 (by decide) ?_
    refine lv_iadd hx hb dX6_takeStep_47 ?_
    obtain ⟨w34, ew34, h⟩ := zbdE h
    refine zr_putI S hK hE zcl_X6 (zcW0 hgb w) 13 (Nat.le_of_ble_eq_true rfl) rfl rfl rfl qf_X6_65 dX6_takeStep_48 ew34 (fun H locs hE => ?_)
    exact zr_vret S hE hr hlk h dX6_takeStep_51
  refine lv_aload_n hx hb dX6_takeStep_0 rfl (lv_at hl 0 rfl) ?_
  obtain ⟨x10001, ex10001, h⟩ := zbdE h
  refine zr_getI S hK hE zcl_X6 (zcW0 hgb w) 9 (Nat.le_of_ble_eq_true rfl) rfl qf_X6_62 dX6_takeStep_1 ex10001 ?_
  refine lv_if_le (tgt := 41) hx hb dX6_takeStep_4 (by decide) (fun c10002 => ?_) (fun c10002 => ?_)
  · have h := zif c10002 h
    exact J41 w ls _ _ h (lv_sub hl [0] rfl) hE
  · have h := zif' c10002 h
    refine lv_aload_n hx hb dX6_takeStep_7 rfl (lv_at hl 0 rfl) ?_
    obtain ⟨x10003, w10004, ew10004, h⟩ := zbd2E h
    refine zr_i (zr_runV (As := []) S hX hE (kX6_isBuilt l D tc lo ad fr zq b w x10003 w10004 ew10004) zyX6_isBuilt qm_X6_130 zcl_X6 rfl (zcW0 hgb w) ⟨rfl, rfl⟩ ⟨Nat.le_of_ble_eq_true rfl, Nat.le_of_ble_eq_true rfl⟩ rfl hl.1 rfl (Nat.le_of_ble_eq_true rfl) dX6_takeStep_8 ⟨Nat.zero_le _, Nat.zero_le _⟩) hE (fun H locs hE => ?_)
    refine lv_if_eq (tgt := 37) hx hb dX6_takeStep_11 (by decide) (fun c10005 => ?_) (fun c10005 => ?_)
    · have h := zif c10005 h
      refine lv_aload_n hx hb dX6_takeStep_37 rfl (lv_at hl 0 rfl) ?_
      obtain ⟨w10006, ew10006, h⟩ := zbdE h
      refine zr_v (zr_runV (As := []) S hX hE (kX6_chooseTrue l D tc lo ad fr zq b w10004 w10006 ew10006) zyX6_chooseTrue qm_X6_138 zcl_X6 rfl (zcW0 hgb w10004) ⟨rfl, rfl⟩ ⟨Nat.le_of_ble_eq_true rfl, Nat.le_of_ble_eq_true rfl⟩ rfl hl.1 rfl (Nat.le_of_ble_eq_true rfl) dX6_takeStep_38 ⟨Nat.zero_le _, Nat.zero_le _⟩) hE (fun H locs hE => ?_)
      exact J41 w10006 ls _ _ h (lv_sub hl [0] rfl) hE
    · have h := zif' c10005 h
      refine lv_aload_n hx hb dX6_takeStep_14 rfl (lv_at hl 0 rfl) ?_
      obtain ⟨x10007, w10008, ew10008, h⟩ := zbd2E h
      refine zr_i (zr_runV (As := []) S hX hE (kX6_draw l D tc lo ad fr zq b w10004 x10007 w10008 ew10008) zyX6_draw qm_X6_89 zcl_X6 rfl (zcW0 hgb w10004) ⟨rfl, rfl⟩ ⟨Nat.le_of_ble_eq_true rfl, Nat.le_of_ble_eq_true rfl⟩ rfl hl.1 rfl (Nat.le_of_ble_eq_true rfl) dX6_takeStep_15 ⟨Nat.zero_le _, Nat.zero_le _⟩) hE (fun H locs hE => ?_)
      refine lv_iconst (v := 4) hx hb dX6_takeStep_18 (by decide) ?_
      obtain ⟨x10009, ex10009, h⟩ := zbdE h
      refine zr_irem hx hb dX6_takeStep_19 ex10009 ?_
      refine lv_istore_n (lv' := [(1, .int x10009), (0, .ref (ad b))]) hx hb dX6_takeStep_20 rfl hl (by decide) rfl (fun ls hl => ?_)
      refine lv_aload_n hx hb dX6_takeStep_21 rfl (lv_at hl 1 rfl) ?_
      refine lv_iload_n hx hb dX6_takeStep_22 rfl (lv_at hl 0 rfl) ?_
      refine lv_aload_n hx hb dX6_takeStep_23 rfl (lv_at hl 1 rfl) ?_
      obtain ⟨x10010, w10011, ew10011, h⟩ := zbd2E h
      refine zr_i (zr_runV (As := []) S hX hE (kX6_draw l D tc lo ad fr zq b w10008 x10010 w10011 ew10011) zyX6_draw qm_X6_89 zcl_X6 rfl (zcW0 hgb w10008) ⟨rfl, rfl⟩ ⟨Nat.le_of_ble_eq_true rfl, Nat.le_of_ble_eq_true rfl⟩ rfl hl.1 rfl (Nat.le_of_ble_eq_true rfl) dX6_takeStep_24 ⟨Nat.zero_le _, Nat.zero_le _⟩) hE (fun H locs hE => ?_)
      refine lv_bipush (v := 36) hx hb dX6_takeStep_27 (by decide) ?_
      obtain ⟨x10012, ex10012, h⟩ := zbdE h
      refine zr_irem hx hb dX6_takeStep_29 ex10012 ?_
      obtain ⟨x10013, w10014, ew10014, h⟩ := zbd2E h
      refine zr_i (zr_runV (As := [.int x10009, .int x10012]) S hX hE (kX6_testAt l D tc lo ad fr zq b x10009 x10012 w10011 x10013 w10014 ew10014) zyX6_testAt qm_X6_134 zcl_X6 rfl (zcW0 hgb w10011) ⟨rfl, rfl⟩ ⟨Nat.le_of_ble_eq_true rfl, Nat.le_of_ble_eq_true rfl⟩ rfl hl.1 rfl (Nat.le_of_ble_eq_true rfl) dX6_takeStep_30 ⟨Nat.zero_le _, Nat.zero_le _⟩) hE (fun H locs hE => ?_)
      refine lv_pop hx hb dX6_takeStep_33 rfl ?_
      refine lv_goto (tgt := 41) hx hb dX6_takeStep_34 (by decide) ?_
      exact J41 w10014 ls _ _ h (lv_sub hl [1] rfl) hE
set_option maxHeartbeats 4000000 in
set_option maxRecDepth 100000 in
theorem kX6_goOn (l : Launch) (D : va_G) (tc : Nat → ClassId) (lo : Nat) (ad : Nat → Nat) (fr : va_W) (zq : zz_Q) (b : Nat) (a1 : Int32) (w : zz_W) (w_ : zz_W) (h : fX6_goOn b a1 w = some w_) : zMv l yX6_goOn cX6_goOn 3 none { frames := 5, cells := 0, slots := 0, locals := 117 } D tc lo ad zshC znnC fr zq [.ref (ad b), .int a1] w w_ := by
  refine zr_entry (by decide) (Nat.le_of_ble_eq_true rfl) fun p e s m args below meth c ls S hX hr hlk hE hl => ?_
  have S : CallFix p m c cX6_goOn 3 s args (Cond.code yX6_goOn cX6_goOn 3 none :: zw_tb) RX6 := S
  have hx := S.1
  have hb := S.2.1
  have hK := hX.2.1
  have hl : lv_has ls 3 [(0, .ref (ad b)), (1, .int a1)] := hl
  unfold fX6_goOn at h
  obtain ⟨hgb, h⟩ := zgrdE h
  have L2 : ∀ (n : Nat) (l1 : Int32) (l2 : Int32) (w : zz_W) (ls : Array Slot) (H : Heap) (locs : List Loc), fX6_goOn_2 b a1 n l1 l2 w = some w_ → lv_has ls 3 [(0, .ref (ad b)), (1, .int l1), (2, .int l2)] → zE D tc lo ad zshC znnC fr w s.heap H locs → W p l e { frames := 5, cells := 0, slots := 0, locals := 117 } s m args below meth c H locs 0 0 (zZv D tc lo ad zshC znnC fr below args s w_) (F0 m 2 ls []) := by
    intro n2
    induction n2 with
    | zero => intro l1 l2 w ls H locs h hl hE; rw [fX6_goOn_2] at h; cases h
    | succ n2 ih2 =>
      intro l1 l2 w ls H locs h hl hE
      rw [fX6_goOn_2] at h
      refine lv_iload_n hx hb dX6_goOn_2 rfl (lv_at hl 2 rfl) ?_
      refine lv_iload_n hx hb dX6_goOn_3 rfl (lv_at hl 1 rfl) ?_
      refine lv_icmp_ge (tgt := 17) hx hb dX6_goOn_4 (by decide) (fun c7 => ?_) (fun c7 => ?_)
      · have h := zif c7 h
        exact zr_vret S hE hr hlk h dX6_goOn_17
      · have h := zif' c7 h
        refine lv_aload_n hx hb dX6_goOn_7 rfl (lv_at hl 0 rfl) ?_
        obtain ⟨w8, ew8, h⟩ := zbdE h
        refine zr_v (zr_runV (As := []) S hX hE (kX6_takeStep l D tc lo ad fr zq b w w8 ew8) zyX6_takeStep qm_X6_127 zcl_X6 rfl (zcW0 hgb w) ⟨rfl, rfl⟩ ⟨Nat.le_of_ble_eq_true rfl, Nat.le_of_ble_eq_true rfl⟩ rfl hl.1 rfl (Nat.le_of_ble_eq_true rfl) dX6_goOn_8 ⟨Nat.zero_le _, Nat.zero_le _⟩) hE (fun H locs hE => ?_)
        obtain ⟨x9, ex9, h⟩ := zbdE h
        refine lv_iinc (v := x9) (lv' := [(2, .int x9), (0, .ref (ad b)), (1, .int l1)]) hx hb dX6_goOn_11 hl (k := 2) rfl (zinc (k := 1) (by decide) ex9) (by decide) rfl (fun ls hl => ?_)
        refine lv_goto (tgt := 2) hx hb dX6_goOn_14 (by decide) ?_
        exact ih2 l1 x9 w8 ls _ _ h (lv_sub hl [1, 2, 0] rfl) hE
  refine lv_iconst (v := 0) hx hb dX6_goOn_0 (by decide) ?_
  refine lv_istore_n (lv' := [(2, .int 0), (0, .ref (ad b)), (1, .int a1)]) hx hb dX6_goOn_1 rfl hl (by decide) rfl (fun ls hl => ?_)
  exact L2 zfuel a1 0 w ls _ _ h (lv_sub hl [1, 2, 0] rfl) hE
set_option maxHeartbeats 4000000 in
set_option maxRecDepth 100000 in
theorem kX6_isKnown (l : Launch) (D : va_G) (tc : Nat → ClassId) (lo : Nat) (ad : Nat → Nat) (fr : va_W) (zq : zz_Q) (b : Nat) (w : zz_W) (r : Int32) (w_ : zz_W) (h : fX6_isKnown b w = some (r, w_)) : zMi l yX6_isKnown cX6_isKnown 1 (some .boolean) { frames := 3, cells := 0, slots := 0, locals := 63 } D tc lo ad zshC znnC fr zq [.ref (ad b)] w r w_ := by
  refine zr_entry (by decide) (Nat.le_of_ble_eq_true rfl) fun p e s m args below meth c ls S hX hr hlk hE hl => ?_
  have S : CallFix p m c cX6_isKnown 1 s args (Cond.code yX6_isKnown cX6_isKnown 1 (some .boolean) :: zw_tb) RX6 := S
  have hx := S.1
  have hb := S.2.1
  have hK := hX.2.1
  have hl : lv_has ls 1 [(0, .ref (ad b))] := hl
  unfold fX6_isKnown at h
  obtain ⟨hgb, h⟩ := zgrdE h
  refine lv_aload_n hx hb dX6_isKnown_0 rfl (lv_at hl 0 rfl) ?_
  obtain ⟨x10001, w10002, ew10002, h⟩ := zbd2E h
  refine zr_i (zr_runV (As := []) S hX hE (kX6_isBuilt l D tc lo ad fr zq b w x10001 w10002 ew10002) zyX6_isBuilt qm_X6_130 zcl_X6 rfl (zcW0 hgb w) ⟨rfl, rfl⟩ ⟨Nat.le_of_ble_eq_true rfl, Nat.le_of_ble_eq_true rfl⟩ rfl hl.1 rfl (Nat.le_of_ble_eq_true rfl) dX6_isKnown_1 ⟨Nat.zero_le _, Nat.zero_le _⟩) hE (fun H locs hE => ?_)
  refine lv_if_eq (tgt := 37) hx hb dX6_isKnown_4 (by decide) (fun c10003 => ?_) (fun c10003 => ?_)
  · have h := zif c10003 h
    refine lv_iconst (v := 0) hx hb dX6_isKnown_37 (by decide) ?_
    exact zr_zret S hE hr hlk (by decide) h dX6_isKnown_38
  · have h := zif' c10003 h
    refine zr_ldc2 S qd_X6_141 dX6_isKnown_7 ?_
    refine lv_aload_n hx hb dX6_isKnown_10 rfl (lv_at hl 0 rfl) ?_
    obtain ⟨x10004, w10005, ew10005, h⟩ := zbd2E h
    refine zr_l (zr_runV (As := []) S hX hE (kX6_allOdds l D tc lo ad fr zq b w10002 x10004 w10005 ew10005) zyX6_allOdds qm_X6_143 zcl_X6 rfl (zcW0 hgb w10002) ⟨rfl, rfl⟩ ⟨Nat.le_of_ble_eq_true rfl, Nat.le_of_ble_eq_true rfl⟩ rfl hl.1 rfl (Nat.le_of_ble_eq_true rfl) dX6_isKnown_11 ⟨Nat.zero_le _, Nat.zero_le _⟩) hE (fun H locs hE => ?_)
    refine lv_lmul hx hb dX6_isKnown_14 ?_
    refine zr_ldc2 S qd_X6_147 dX6_isKnown_15 ?_
    refine lv_aload_n hx hb dX6_isKnown_18 rfl (lv_at hl 0 rfl) ?_
    refine zr_getA S hK hE zcl_X6 (zcW0 hgb w10005) 4 (Nat.le_of_ble_eq_true rfl) (q := b + 5) rfl qf_X6_24 dX6_isKnown_19 ?_
    refine lv_aload_n hx hb dX6_isKnown_22 rfl (lv_at hl 0 rfl) ?_
    obtain ⟨x10006, ex10006, h⟩ := zbdE h
    refine zr_getI S hK hE zcl_X6 (zcW0 hgb w10005) 10 (Nat.le_of_ble_eq_true rfl) rfl qf_X6_43 dX6_isKnown_23 ex10006 ?_
    obtain ⟨x10007, ex10007, h⟩ := zbdE h
    refine zr_iald S hK hE (zcW5 hgb w10005) dX6_isKnown_26 ex10007 ?_
    refine lv_i2l hx hb dX6_isKnown_27 rfl ?_
    refine lv_lmul hx hb dX6_isKnown_28 ?_
    refine W.lcmp hx hb dX6_isKnown_29 ?_
    refine lv_if_gt (tgt := 37) hx hb dX6_isKnown_30 (by decide) (fun c10008 => ?_) (fun c10008 => ?_)
    · have h := zif c10008 h
      refine lv_iconst (v := 0) hx hb dX6_isKnown_37 (by decide) ?_
      exact zr_zret S hE hr hlk (by decide) h dX6_isKnown_38
    · have h := zif' c10008 h
      refine lv_iconst (v := 1) hx hb dX6_isKnown_33 (by decide) ?_
      refine lv_goto (tgt := 38) hx hb dX6_isKnown_34 (by decide) ?_
      exact zr_zret S hE hr hlk (by decide) h dX6_isKnown_38
set_option maxHeartbeats 4000000 in
set_option maxRecDepth 100000 in
theorem kX6_likeliest (l : Launch) (D : va_G) (tc : Nat → ClassId) (lo : Nat) (ad : Nat → Nat) (fr : va_W) (zq : zz_Q) (b : Nat) (w : zz_W) (r : Int32) (w_ : zz_W) (h : fX6_likeliest b w = some (r, w_)) : zMi l yX6_likeliest cX6_likeliest 3 (some .int) { frames := 0, cells := 0, slots := 0, locals := 0 } D tc lo ad zshC znnC fr zq [.ref (ad b)] w r w_ := by
  refine zr_entry (by decide) (Nat.le_of_ble_eq_true rfl) fun p e s m args below meth c ls S hX hr hlk hE hl => ?_
  have S : CallFix p m c cX6_likeliest 3 s args (Cond.code yX6_likeliest cX6_likeliest 3 (some .int) :: zw_tb) RX6 := S
  have hx := S.1
  have hb := S.2.1
  have hK := hX.2.1
  have hl : lv_has ls 3 [(0, .ref (ad b))] := hl
  unfold fX6_likeliest at h
  obtain ⟨hgb, h⟩ := zgrdE h
  have L4 : ∀ (n : Nat) (l1 : Int32) (l2 : Int32) (w : zz_W) (ls : Array Slot) (H : Heap) (locs : List Loc), fX6_likeliest_4 b n l1 l2 w = some (r, w_) → lv_has ls 3 [(0, .ref (ad b)), (1, .int l1), (2, .int l2)] → zE D tc lo ad zshC znnC fr w s.heap H locs → W p l e { frames := 0, cells := 0, slots := 0, locals := 0 } s m args below meth c H locs 0 0 (zZi D tc lo ad zshC znnC fr below args s r w_) (F0 m 4 ls []) := by
    intro n4
    induction n4 with
    | zero => intro l1 l2 w ls H locs h hl hE; rw [fX6_likeliest_4] at h; cases h
    | succ n4 ih4 =>
      intro l1 l2 w ls H locs h hl hE
      rw [fX6_likeliest_4] at h
      refine lv_iload_n hx hb dX6_likeliest_4 rfl (lv_at hl 2 rfl) ?_
      refine lv_aload_n hx hb dX6_likeliest_5 rfl (lv_at hl 0 rfl) ?_
      obtain ⟨x21, ex21, h⟩ := zbdE h
      refine zr_getI S hK hE zcl_X6 (zcW0 hgb w) 9 (Nat.le_of_ble_eq_true rfl) rfl qf_X6_62 dX6_likeliest_6 ex21 ?_
      refine lv_icmp_ge (tgt := 39) hx hb dX6_likeliest_9 (by decide) (fun c22 => ?_) (fun c22 => ?_)
      · have h := zif c22 h
        refine lv_iload_n hx hb dX6_likeliest_39 rfl (lv_at hl 1 rfl) ?_
        exact zr_iret S hE hr hlk h dX6_likeliest_40
      · have h := zif' c22 h
        refine lv_iload_n hx hb dX6_likeliest_12 rfl (lv_at hl 1 rfl) ?_
        refine lv_if_lt (tgt := 31) hx hb dX6_likeliest_13 (by decide) (fun c23 => ?_) (fun c23 => ?_)
        · have h := zif c23 h
          refine lv_iload_n hx hb dX6_likeliest_31 rfl (lv_at hl 2 rfl) ?_
          refine lv_istore_n (lv' := [(1, .int l2), (0, .ref (ad b)), (2, .int l2)]) hx hb dX6_likeliest_32 rfl hl (by decide) rfl (fun ls hl => ?_)
          obtain ⟨x24, ex24, h⟩ := zbdE h
          refine lv_iinc (v := x24) (lv' := [(2, .int x24), (1, .int l2), (0, .ref (ad b))]) hx hb dX6_likeliest_33 hl (k := 2) rfl (zinc (k := 1) (by decide) ex24) (by decide) rfl (fun ls hl => ?_)
          refine lv_goto (tgt := 4) hx hb dX6_likeliest_36 (by decide) ?_
          exact ih4 l2 x24 w ls _ _ h (lv_sub hl [2, 1, 0] rfl) hE
        · have h := zif' c23 h
          refine lv_aload_n hx hb dX6_likeliest_16 rfl (lv_at hl 0 rfl) ?_
          refine zr_getA S hK hE zcl_X6 (zcW0 hgb w) 4 (Nat.le_of_ble_eq_true rfl) (q := b + 5) rfl qf_X6_24 dX6_likeliest_17 ?_
          refine lv_iload_n hx hb dX6_likeliest_20 rfl (lv_at hl 2 rfl) ?_
          obtain ⟨x25, ex25, h⟩ := zbdE h
          refine zr_iald S hK hE (zcW5 hgb w) dX6_likeliest_21 ex25 ?_
          refine lv_aload_n hx hb dX6_likeliest_22 rfl (lv_at hl 0 rfl) ?_
          refine zr_getA S hK hE zcl_X6 (zcW0 hgb w) 4 (Nat.le_of_ble_eq_true rfl) (q := b + 5) rfl qf_X6_24 dX6_likeliest_23 ?_
          refine lv_iload_n hx hb dX6_likeliest_26 rfl (lv_at hl 1 rfl) ?_
          obtain ⟨x26, ex26, h⟩ := zbdE h
          refine zr_iald S hK hE (zcW5 hgb w) dX6_likeliest_27 ex26 ?_
          refine lv_icmp_le (tgt := 33) hx hb dX6_likeliest_28 (by decide) (fun c27 => ?_) (fun c27 => ?_)
          · have h := zif c27 h
            obtain ⟨x28, ex28, h⟩ := zbdE h
            refine lv_iinc (v := x28) (lv' := [(2, .int x28), (0, .ref (ad b)), (1, .int l1)]) hx hb dX6_likeliest_33 hl (k := 2) rfl (zinc (k := 1) (by decide) ex28) (by decide) rfl (fun ls hl => ?_)
            refine lv_goto (tgt := 4) hx hb dX6_likeliest_36 (by decide) ?_
            exact ih4 l1 x28 w ls _ _ h (lv_sub hl [1, 2, 0] rfl) hE
          · have h := zif' c27 h
            refine lv_iload_n hx hb dX6_likeliest_31 rfl (lv_at hl 2 rfl) ?_
            refine lv_istore_n (lv' := [(1, .int l2), (0, .ref (ad b)), (2, .int l2)]) hx hb dX6_likeliest_32 rfl hl (by decide) rfl (fun ls hl => ?_)
            obtain ⟨x29, ex29, h⟩ := zbdE h
            refine lv_iinc (v := x29) (lv' := [(2, .int x29), (1, .int l2), (0, .ref (ad b))]) hx hb dX6_likeliest_33 hl (k := 2) rfl (zinc (k := 1) (by decide) ex29) (by decide) rfl (fun ls hl => ?_)
            refine lv_goto (tgt := 4) hx hb dX6_likeliest_36 (by decide) ?_
            exact ih4 l2 x29 w ls _ _ h (lv_sub hl [2, 1, 0] rfl) hE
  refine lv_iconst (v := (-1)) hx hb dX6_likeliest_0 (by decide) ?_
  obtain ⟨x10001, ex10001, h⟩ := zbdE h
  refine zr_topi ex10001 ?_
  refine lv_istore_n (lv' := [(1, .int x10001), (0, .ref (ad b))]) hx hb dX6_likeliest_1 rfl hl (by decide) rfl (fun ls hl => ?_)
  refine lv_iconst (v := 0) hx hb dX6_likeliest_2 (by decide) ?_
  refine lv_istore_n (lv' := [(2, .int 0), (1, .int x10001), (0, .ref (ad b))]) hx hb dX6_likeliest_3 rfl hl (by decide) rfl (fun ls hl => ?_)
  exact L4 zfuel x10001 0 w ls _ _ h (lv_sub hl [2, 1, 0] rfl) hE
set_option maxHeartbeats 4000000 in
set_option maxRecDepth 100000 in
theorem kX6_lossAt (l : Launch) (D : va_G) (tc : Nat → ClassId) (lo : Nat) (ad : Nat → Nat) (fr : va_W) (zq : zz_Q) (b : Nat) (a1 : Int32) (a2 : Int32) (w : zz_W) (r : Int64) (w_ : zz_W) (h : fX6_lossAt b a1 a2 w = some (r, w_)) : zMl l yX6_lossAt cX6_lossAt 6 (some .long) { frames := 5, cells := 0, slots := 0, locals := 119 } D tc lo ad zshC znnC fr zq [.ref (ad b), .int a1, .int a2] w r w_ := by
  refine zr_entry (by decide) (Nat.le_of_ble_eq_true rfl) fun p e s m args below meth c ls S hX hr hlk hE hl => ?_
  have S : CallFix p m c cX6_lossAt 6 s args (Cond.code yX6_lossAt cX6_lossAt 6 (some .long) :: zw_tb) RX6 := S
  have hx := S.1
  have hb := S.2.1
  have hK := hX.2.1
  have hl : lv_has ls 6 [(0, .ref (ad b)), (1, .int a1), (2, .int a2)] := hl
  unfold fX6_lossAt at h
  obtain ⟨hgb, h⟩ := zgrdE h
  have L5 : ∀ (n : Nat) (l1 : Int32) (l2 : Int32) (l3 : Int64) (l5 : Int32) (w : zz_W) (ls : Array Slot) (H : Heap) (locs : List Loc), fX6_lossAt_5 b a1 a2 n l1 l2 l3 l5 w = some (r, w_) → lv_has ls 6 [(0, .ref (ad b)), (1, .int l1), (2, .int l2), (3, .long l3), (5, .int l5)] → zE D tc lo ad zshC znnC fr w s.heap H locs → W p l e { frames := 5, cells := 0, slots := 0, locals := 119 } s m args below meth c H locs 0 0 (zZl D tc lo ad zshC znnC fr below args s r w_) (F0 m 5 ls []) := by
    intro n5
    induction n5 with
    | zero => intro l1 l2 l3 l5 w ls H locs h hl hE; rw [fX6_lossAt_5] at h; cases h
    | succ n5 ih5 =>
      intro l1 l2 l3 l5 w ls H locs h hl hE
      rw [fX6_lossAt_5] at h
      refine lv_iload hx hb dX6_lossAt_5 (lv_at hl 4 rfl) ?_
      refine lv_aload_n hx hb dX6_lossAt_7 rfl (lv_at hl 0 rfl) ?_
      obtain ⟨x25, ex25, h⟩ := zbdE h
      refine zr_getI S hK hE zcl_X6 (zcW0 hgb w) 9 (Nat.le_of_ble_eq_true rfl) rfl qf_X6_62 dX6_lossAt_8 ex25 ?_
      refine lv_icmp_ge (tgt := 48) hx hb dX6_lossAt_11 (by decide) (fun c26 => ?_) (fun c26 => ?_)
      · have h := zif c26 h
        refine lv_lload_n hx hb dX6_lossAt_48 rfl (lv_at hl 3 rfl) ?_
        exact zr_lret S hE hr hlk h dX6_lossAt_49
      · have h := zif' c26 h
        refine lv_lload_n hx hb dX6_lossAt_14 rfl (lv_at hl 3 rfl) ?_
        refine lv_aload_n hx hb dX6_lossAt_15 rfl (lv_at hl 0 rfl) ?_
        refine zr_getA S hK hE zcl_X6 (zcW0 hgb w) 5 (Nat.le_of_ble_eq_true rfl) (q := b + 6) rfl qf_X6_27 dX6_lossAt_16 ?_
        refine lv_iload hx hb dX6_lossAt_19 (lv_at hl 4 rfl) ?_
        obtain ⟨x27, ex27, h⟩ := zbdE h
        refine zr_lald S hK hE (zcW6 hgb w) dX6_lossAt_21 ex27 ?_
        refine lv_iload_n hx hb dX6_lossAt_22 rfl (lv_at hl 1 rfl) ?_
        obtain ⟨x28, w29, ew29, h⟩ := zbd2E h
        refine zr_i (zr_runS (As := [.long x27, .int l1]) S hX hE (kX0_has l D tc lo ad fr zq x27 l1 w x28 w29 ew29) zyX0_has qm_X6_102 ⟨rfl, rfl⟩ ⟨Nat.le_of_ble_eq_true rfl, Nat.le_of_ble_eq_true rfl⟩ rfl hl.1 rfl (Nat.le_of_ble_eq_true rfl) dX6_lossAt_23 ⟨Nat.zero_le _, Nat.zero_le _⟩) hE (fun H locs hE => ?_)
        refine lv_if_eq (tgt := 39) hx hb dX6_lossAt_26 (by decide) (fun c30 => ?_) (fun c30 => ?_)
        · have h := zif c30 h
          refine lv_lconst (v := 0) hx hb dX6_lossAt_39 (by decide) ?_
          refine lv_ladd hx hb dX6_lossAt_40 ?_
          obtain ⟨x31, ex31, h⟩ := zbdE h
          refine zr_topl ex31 ?_
          refine lv_lstore_n (lv' := [(3, .long x31), (0, .ref (ad b)), (1, .int l1), (2, .int l2), (5, .int l5)]) hx hb dX6_lossAt_41 rfl hl (by decide) rfl (fun ls hl => ?_)
          obtain ⟨x32, ex32, h⟩ := zbdE h
          refine lv_iinc (v := x32) (lv' := [(5, .int x32), (3, .long x31), (0, .ref (ad b)), (1, .int l1), (2, .int l2)]) hx hb dX6_lossAt_42 hl (k := 4) rfl (zinc (k := 1) (by decide) ex32) (by decide) rfl (fun ls hl => ?_)
          refine lv_goto (tgt := 5) hx hb dX6_lossAt_45 (by decide) ?_
          exact ih5 l1 l2 x31 x32 w29 ls _ _ h (lv_sub hl [2, 3, 4, 1, 0] rfl) hE
        · have h := zif' c30 h
          refine lv_aload_n hx hb dX6_lossAt_29 rfl (lv_at hl 0 rfl) ?_
          refine lv_iload hx hb dX6_lossAt_30 (lv_at hl 4 rfl) ?_
          refine lv_iload_n hx hb dX6_lossAt_32 rfl (lv_at hl 2 rfl) ?_
          obtain ⟨x33, w34, ew34, h⟩ := zbd2E h
          refine zr_l (zr_runV (As := [.int l5, .int l2]) S hX hE (kX6_lossBy l D tc lo ad fr zq b l5 l2 w29 x33 w34 ew34) zyX6_lossBy qm_X6_149 zcl_X6 rfl (zcW0 hgb w29) ⟨rfl, rfl⟩ ⟨Nat.le_of_ble_eq_true rfl, Nat.le_of_ble_eq_true rfl⟩ rfl hl.1 rfl (Nat.le_of_ble_eq_true rfl) dX6_lossAt_33 ⟨Nat.zero_le _, Nat.zero_le _⟩) hE (fun H locs hE => ?_)
          refine lv_goto (tgt := 40) hx hb dX6_lossAt_36 (by decide) ?_
          refine lv_ladd hx hb dX6_lossAt_40 ?_
          obtain ⟨x35, ex35, h⟩ := zbdE h
          refine zr_topl ex35 ?_
          refine lv_lstore_n (lv' := [(3, .long x35), (0, .ref (ad b)), (1, .int l1), (2, .int l2), (5, .int l5)]) hx hb dX6_lossAt_41 rfl hl (by decide) rfl (fun ls hl => ?_)
          obtain ⟨x36, ex36, h⟩ := zbdE h
          refine lv_iinc (v := x36) (lv' := [(5, .int x36), (3, .long x35), (0, .ref (ad b)), (1, .int l1), (2, .int l2)]) hx hb dX6_lossAt_42 hl (k := 4) rfl (zinc (k := 1) (by decide) ex36) (by decide) rfl (fun ls hl => ?_)
          refine lv_goto (tgt := 5) hx hb dX6_lossAt_45 (by decide) ?_
          exact ih5 l1 l2 x35 x36 w34 ls _ _ h (lv_sub hl [2, 3, 4, 1, 0] rfl) hE
  refine lv_lconst (v := 0) hx hb dX6_lossAt_0 (by decide) ?_
  refine lv_lstore_n (lv' := [(3, .long 0), (0, .ref (ad b)), (1, .int a1), (2, .int a2)]) hx hb dX6_lossAt_1 rfl hl (by decide) rfl (fun ls hl => ?_)
  refine lv_iconst (v := 0) hx hb dX6_lossAt_2 (by decide) ?_
  refine lv_istore (lv' := [(5, .int 0), (3, .long 0), (0, .ref (ad b)), (1, .int a1), (2, .int a2)]) hx hb dX6_lossAt_3 hl (by decide) rfl (fun ls hl => ?_)
  exact L5 zfuel a1 a2 0 0 w ls _ _ h (lv_sub hl [2, 3, 4, 1, 0] rfl) hE
set_option maxHeartbeats 4000000 in
set_option maxRecDepth 100000 in
theorem kX6_oddsAt (l : Launch) (D : va_G) (tc : Nat → ClassId) (lo : Nat) (ad : Nat → Nat) (fr : va_W) (zq : zz_Q) (b : Nat) (a1 : Int32) (w : zz_W) (r : Int64) (w_ : zz_W) (h : fX6_oddsAt b a1 w = some (r, w_)) : zMl l yX6_oddsAt cX6_oddsAt 5 (some .long) { frames := 1, cells := 0, slots := 0, locals := 22 } D tc lo ad zshC znnC fr zq [.ref (ad b), .int a1] w r w_ := by
  refine zr_entry (by decide) (Nat.le_of_ble_eq_true rfl) fun p e s m args below meth c ls S hX hr hlk hE hl => ?_
  have S : CallFix p m c cX6_oddsAt 5 s args (Cond.code yX6_oddsAt cX6_oddsAt 5 (some .long) :: zw_tb) RX6 := S
  have hx := S.1
  have hb := S.2.1
  have hK := hX.2.1
  have hl : lv_has ls 5 [(0, .ref (ad b)), (1, .int a1)] := hl
  unfold fX6_oddsAt at h
  obtain ⟨hgb, h⟩ := zgrdE h
  have L5 : ∀ (n : Nat) (l1 : Int32) (l2 : Int64) (l4 : Int32) (w : zz_W) (ls : Array Slot) (H : Heap) (locs : List Loc), fX6_oddsAt_5 b a1 n l1 l2 l4 w = some (r, w_) → lv_has ls 5 [(0, .ref (ad b)), (1, .int l1), (2, .long l2), (4, .int l4)] → zE D tc lo ad zshC znnC fr w s.heap H locs → W p l e { frames := 1, cells := 0, slots := 0, locals := 22 } s m args below meth c H locs 0 0 (zZl D tc lo ad zshC znnC fr below args s r w_) (F0 m 5 ls []) := by
    intro n5
    induction n5 with
    | zero => intro l1 l2 l4 w ls H locs h hl hE; rw [fX6_oddsAt_5] at h; cases h
    | succ n5 ih5 =>
      intro l1 l2 l4 w ls H locs h hl hE
      rw [fX6_oddsAt_5] at h
      refine lv_iload hx hb dX6_oddsAt_5 (lv_at hl 3 rfl) ?_
      refine lv_aload_n hx hb dX6_oddsAt_7 rfl (lv_at hl 0 rfl) ?_
      obtain ⟨x23, ex23, h⟩ := zbdE h
      refine zr_getI S hK hE zcl_X6 (zcW0 hgb w) 9 (Nat.le_of_ble_eq_true rfl) rfl qf_X6_62 dX6_oddsAt_8 ex23 ?_
      refine lv_icmp_ge (tgt := 49) hx hb dX6_oddsAt_11 (by decide) (fun c24 => ?_) (fun c24 => ?_)
      · have h := zif c24 h
        refine lv_lload_n hx hb dX6_oddsAt_49 rfl (lv_at hl 2 rfl) ?_
        exact zr_lret S hE hr hlk h dX6_oddsAt_50
      · have h := zif' c24 h
        refine lv_lload_n hx hb dX6_oddsAt_14 rfl (lv_at hl 2 rfl) ?_
        refine lv_aload_n hx hb dX6_oddsAt_15 rfl (lv_at hl 0 rfl) ?_
        refine zr_getA S hK hE zcl_X6 (zcW0 hgb w) 5 (Nat.le_of_ble_eq_true rfl) (q := b + 6) rfl qf_X6_27 dX6_oddsAt_16 ?_
        refine lv_iload hx hb dX6_oddsAt_19 (lv_at hl 3 rfl) ?_
        obtain ⟨x25, ex25, h⟩ := zbdE h
        refine zr_lald S hK hE (zcW6 hgb w) dX6_oddsAt_21 ex25 ?_
        refine lv_iload_n hx hb dX6_oddsAt_22 rfl (lv_at hl 1 rfl) ?_
        obtain ⟨x26, w27, ew27, h⟩ := zbd2E h
        refine zr_i (zr_runS (As := [.long x25, .int l1]) S hX hE (kX0_has l D tc lo ad fr zq x25 l1 w x26 w27 ew27) zyX0_has qm_X6_102 ⟨rfl, rfl⟩ ⟨Nat.le_of_ble_eq_true rfl, Nat.le_of_ble_eq_true rfl⟩ rfl hl.1 rfl (Nat.le_of_ble_eq_true rfl) dX6_oddsAt_23 ⟨Nat.zero_le _, Nat.zero_le _⟩) hE (fun H locs hE => ?_)
        refine lv_if_eq (tgt := 40) hx hb dX6_oddsAt_26 (by decide) (fun c28 => ?_) (fun c28 => ?_)
        · have h := zif c28 h
          refine lv_lconst (v := 0) hx hb dX6_oddsAt_40 (by decide) ?_
          refine lv_ladd hx hb dX6_oddsAt_41 ?_
          obtain ⟨x29, ex29, h⟩ := zbdE h
          refine zr_topl ex29 ?_
          refine lv_lstore_n (lv' := [(2, .long x29), (0, .ref (ad b)), (1, .int l1), (4, .int l4)]) hx hb dX6_oddsAt_42 rfl hl (by decide) rfl (fun ls hl => ?_)
          obtain ⟨x30, ex30, h⟩ := zbdE h
          refine lv_iinc (v := x30) (lv' := [(4, .int x30), (2, .long x29), (0, .ref (ad b)), (1, .int l1)]) hx hb dX6_oddsAt_43 hl (k := 3) rfl (zinc (k := 1) (by decide) ex30) (by decide) rfl (fun ls hl => ?_)
          refine lv_goto (tgt := 5) hx hb dX6_oddsAt_46 (by decide) ?_
          exact ih5 l1 x29 x30 w27 ls _ _ h (lv_sub hl [2, 3, 1, 0] rfl) hE
        · have h := zif' c28 h
          refine lv_aload_n hx hb dX6_oddsAt_29 rfl (lv_at hl 0 rfl) ?_
          refine zr_getA S hK hE zcl_X6 (zcW0 hgb w27) 4 (Nat.le_of_ble_eq_true rfl) (q := b + 5) rfl qf_X6_24 dX6_oddsAt_30 ?_
          refine lv_iload hx hb dX6_oddsAt_33 (lv_at hl 3 rfl) ?_
          obtain ⟨x31, ex31, h⟩ := zbdE h
          refine zr_iald S hK hE (zcW5 hgb w27) dX6_oddsAt_35 ex31 ?_
          refine lv_i2l hx hb dX6_oddsAt_36 rfl ?_
          refine lv_goto (tgt := 41) hx hb dX6_oddsAt_37 (by decide) ?_
          refine lv_ladd hx hb dX6_oddsAt_41 ?_
          obtain ⟨x32, ex32, h⟩ := zbdE h
          refine zr_topl ex32 ?_
          refine lv_lstore_n (lv' := [(2, .long x32), (0, .ref (ad b)), (1, .int l1), (4, .int l4)]) hx hb dX6_oddsAt_42 rfl hl (by decide) rfl (fun ls hl => ?_)
          obtain ⟨x33, ex33, h⟩ := zbdE h
          refine lv_iinc (v := x33) (lv' := [(4, .int x33), (2, .long x32), (0, .ref (ad b)), (1, .int l1)]) hx hb dX6_oddsAt_43 hl (k := 3) rfl (zinc (k := 1) (by decide) ex33) (by decide) rfl (fun ls hl => ?_)
          refine lv_goto (tgt := 5) hx hb dX6_oddsAt_46 (by decide) ?_
          exact ih5 l1 x32 x33 w27 ls _ _ h (lv_sub hl [2, 3, 1, 0] rfl) hE
  refine lv_lconst (v := 0) hx hb dX6_oddsAt_0 (by decide) ?_
  refine lv_lstore_n (lv' := [(2, .long 0), (0, .ref (ad b)), (1, .int a1)]) hx hb dX6_oddsAt_1 rfl hl (by decide) rfl (fun ls hl => ?_)
  refine lv_iconst (v := 0) hx hb dX6_oddsAt_2 (by decide) ?_
  refine lv_istore (lv' := [(4, .int 0), (2, .long 0), (0, .ref (ad b)), (1, .int a1)]) hx hb dX6_oddsAt_3 hl (by decide) rfl (fun ls hl => ?_)
  exact L5 zfuel a1 0 0 w ls _ _ h (lv_sub hl [2, 3, 1, 0] rfl) hE
set_option maxHeartbeats 4000000 in
set_option maxRecDepth 100000 in
theorem kX6_ofThousand (l : Launch) (D : va_G) (tc : Nat → ClassId) (lo : Nat) (ad : Nat → Nat) (fr : va_W) (zq : zz_Q) (b : Nat) (a1 : Int64) (w : zz_W) (r : Int32) (w_ : zz_W) (h : fX6_ofThousand b a1 w = some (r, w_)) : zMi l yX6_ofThousand cX6_ofThousand 5 (some .int) { frames := 1, cells := 0, slots := 0, locals := 23 } D tc lo ad zshC znnC fr zq [.ref (ad b), .long a1] w r w_ := by
  refine zr_entry (by decide) (Nat.le_of_ble_eq_true rfl) fun p e s m args below meth c ls S hX hr hlk hE hl => ?_
  have S : CallFix p m c cX6_ofThousand 5 s args (Cond.code yX6_ofThousand cX6_ofThousand 5 (some .int) :: zw_tb) RX6 := S
  have hx := S.1
  have hb := S.2.1
  have hK := hX.2.1
  have hl : lv_has ls 5 [(0, .ref (ad b)), (1, .long a1)] := hl
  unfold fX6_ofThousand at h
  obtain ⟨hgb, h⟩ := zgrdE h
  refine lv_aload_n hx hb dX6_ofThousand_0 rfl (lv_at hl 0 rfl) ?_
  obtain ⟨x10001, w10002, ew10002, h⟩ := zbd2E h
  refine zr_l (zr_runV (As := []) S hX hE (kX6_allOdds l D tc lo ad fr zq b w x10001 w10002 ew10002) zyX6_allOdds qm_X6_143 zcl_X6 rfl (zcW0 hgb w) ⟨rfl, rfl⟩ ⟨Nat.le_of_ble_eq_true rfl, Nat.le_of_ble_eq_true rfl⟩ rfl hl.1 rfl (Nat.le_of_ble_eq_true rfl) dX6_ofThousand_1 ⟨Nat.zero_le _, Nat.zero_le _⟩) hE (fun H locs hE => ?_)
  refine lv_lstore_n (lv' := [(3, .long x10001), (0, .ref (ad b)), (1, .long a1)]) hx hb dX6_ofThousand_4 rfl hl (by decide) rfl (fun ls hl => ?_)
  refine lv_lload_n hx hb dX6_ofThousand_5 rfl (lv_at hl 0 rfl) ?_
  refine lv_lconst (v := 0) hx hb dX6_ofThousand_6 (by decide) ?_
  refine W.lcmp hx hb dX6_ofThousand_7 ?_
  refine lv_if_gt (tgt := 15) hx hb dX6_ofThousand_8 (by decide) (fun c10003 => ?_) (fun c10003 => ?_)
  · have h := zif c10003 h
    refine zr_ldc2 S qd_X6_147 dX6_ofThousand_15 ?_
    refine lv_lload_n hx hb dX6_ofThousand_18 rfl (lv_at hl 2 rfl) ?_
    refine lv_lmul hx hb dX6_ofThousand_19 ?_
    refine lv_lload_n hx hb dX6_ofThousand_20 rfl (lv_at hl 0 rfl) ?_
    obtain ⟨x10004, ex10004, h⟩ := zbdE h
    refine zr_ldiv hx hb dX6_ofThousand_21 ex10004 ?_
    refine lv_l2i hx hb dX6_ofThousand_22 rfl ?_
    exact zr_iret S hE hr hlk h dX6_ofThousand_23
  · have h := zif' c10003 h
    refine lv_iconst (v := 0) hx hb dX6_ofThousand_11 (by decide) ?_
    refine lv_goto (tgt := 23) hx hb dX6_ofThousand_12 (by decide) ?_
    exact zr_iret S hE hr hlk h dX6_ofThousand_23
set_option maxHeartbeats 4000000 in
set_option maxRecDepth 100000 in
theorem kX6_takeFrom (l : Launch) (D : va_G) (tc : Nat → ClassId) (lo : Nat) (ad : Nat → Nat) (fr : va_W) (zq : zz_Q) (b : Nat) (a1 : Nat) (w : zz_W) (w_ : zz_W) (h : fX6_takeFrom b a1 w = some w_) : zMv l yX6_takeFrom cX6_takeFrom 3 none { frames := 1, cells := 0, slots := 0, locals := 26 } D tc lo ad zshC znnC fr zq [.ref (ad b), .ref (ad a1)] w w_ := by
  refine zr_entry (by decide) (Nat.le_of_ble_eq_true rfl) fun p e s m args below meth c ls S hX hr hlk hE hl => ?_
  have S : CallFix p m c cX6_takeFrom 3 s args (Cond.code yX6_takeFrom cX6_takeFrom 3 none :: zw_tb) RX6 := S
  have hx := S.1
  have hb := S.2.1
  have hK := hX.2.1
  have hl : lv_has ls 3 [(0, .ref (ad b)), (1, .ref (ad a1))] := hl
  unfold fX6_takeFrom at h
  obtain ⟨hgb, h⟩ := zgrdE h
  obtain ⟨hga1, h⟩ := zgrdE h
  have L121 : ∀ (n : Nat) (l2 : Int32) (w : zz_W) (ls : Array Slot) (H : Heap) (locs : List Loc), fX6_takeFrom_121 b a1 n l2 w = some w_ → lv_has ls 3 [(0, .ref (ad b)), (1, .ref (ad a1)), (2, .int l2)] → zE D tc lo ad zshC znnC fr w s.heap H locs → W p l e { frames := 1, cells := 0, slots := 0, locals := 26 } s m args below meth c H locs 0 0 (zZv D tc lo ad zshC znnC fr below args s w_) (F0 m 121 ls []) := by
    intro n121
    induction n121 with
    | zero => intro l2 w ls H locs h hl hE; rw [fX6_takeFrom_121] at h; cases h
    | succ n121 ih121 =>
      intro l2 w ls H locs h hl hE
      rw [fX6_takeFrom_121] at h
      refine lv_iload_n hx hb dX6_takeFrom_121 rfl (lv_at hl 2 rfl) ?_
      refine lv_bipush (v := 14) hx hb dX6_takeFrom_122 (by decide) ?_
      refine lv_icmp_ge (tgt := 145) hx hb dX6_takeFrom_124 (by decide) (fun c61 => ?_) (fun c61 => ?_)
      · have h := zif c61 h
        refine lv_aload_n hx hb dX6_takeFrom_145 rfl (lv_at hl 0 rfl) ?_
        refine lv_aload_n hx hb dX6_takeFrom_146 rfl (lv_at hl 1 rfl) ?_
        obtain ⟨x62, ex62, h⟩ := zbdE h
        refine zr_getI S hK hE zcl_X6 (zcW0 hga1 w) 9 (Nat.le_of_ble_eq_true rfl) rfl qf_X6_62 dX6_takeFrom_147 ex62 ?_
        obtain ⟨w63, ew63, h⟩ := zbdE h
        refine zr_putI S hK hE zcl_X6 (zcW0 hgb w) 9 (Nat.le_of_ble_eq_true rfl) rfl rfl rfl qf_X6_62 dX6_takeFrom_150 ew63 (fun H locs hE => ?_)
        refine lv_aload_n hx hb dX6_takeFrom_153 rfl (lv_at hl 0 rfl) ?_
        refine lv_aload_n hx hb dX6_takeFrom_154 rfl (lv_at hl 1 rfl) ?_
        obtain ⟨x64, ex64, h⟩ := zbdE h
        refine zr_getI S hK hE zcl_X6 (zcW0 hga1 w63) 10 (Nat.le_of_ble_eq_true rfl) rfl qf_X6_43 dX6_takeFrom_155 ex64 ?_
        obtain ⟨w65, ew65, h⟩ := zbdE h
        refine zr_putI S hK hE zcl_X6 (zcW0 hgb w63) 10 (Nat.le_of_ble_eq_true rfl) rfl rfl rfl qf_X6_43 dX6_takeFrom_158 ew65 (fun H locs hE => ?_)
        refine lv_aload_n hx hb dX6_takeFrom_161 rfl (lv_at hl 0 rfl) ?_
        refine lv_aload_n hx hb dX6_takeFrom_162 rfl (lv_at hl 1 rfl) ?_
        obtain ⟨x66, ex66, h⟩ := zbdE h
        refine zr_getI S hK hE zcl_X6 (zcW0 hga1 w65) 11 (Nat.le_of_ble_eq_true rfl) rfl qf_X6_47 dX6_takeFrom_163 ex66 ?_
        obtain ⟨w67, ew67, h⟩ := zbdE h
        refine zr_putI S hK hE zcl_X6 (zcW0 hgb w65) 11 (Nat.le_of_ble_eq_true rfl) rfl rfl rfl qf_X6_47 dX6_takeFrom_166 ew67 (fun H locs hE => ?_)
        refine lv_aload_n hx hb dX6_takeFrom_169 rfl (lv_at hl 0 rfl) ?_
        refine lv_aload_n hx hb dX6_takeFrom_170 rfl (lv_at hl 1 rfl) ?_
        obtain ⟨x68, ex68, h⟩ := zbdE h
        refine zr_getI S hK hE zcl_X6 (zcW0 hga1 w67) 12 (Nat.le_of_ble_eq_true rfl) rfl qf_X6_50 dX6_takeFrom_171 ex68 ?_
        obtain ⟨w69, ew69, h⟩ := zbdE h
        refine zr_putI S hK hE zcl_X6 (zcW0 hgb w67) 12 (Nat.le_of_ble_eq_true rfl) rfl rfl rfl qf_X6_50 dX6_takeFrom_174 ew69 (fun H locs hE => ?_)
        refine lv_aload_n hx hb dX6_takeFrom_177 rfl (lv_at hl 0 rfl) ?_
        refine lv_aload_n hx hb dX6_takeFrom_178 rfl (lv_at hl 1 rfl) ?_
        obtain ⟨x70, ex70, h⟩ := zbdE h
        refine zr_getI S hK hE zcl_X6 (zcW0 hga1 w69) 13 (Nat.le_of_ble_eq_true rfl) rfl qf_X6_65 dX6_takeFrom_179 ex70 ?_
        obtain ⟨w71, ew71, h⟩ := zbdE h
        refine zr_putI S hK hE zcl_X6 (zcW0 hgb w69) 13 (Nat.le_of_ble_eq_true rfl) rfl rfl rfl qf_X6_65 dX6_takeFrom_182 ew71 (fun H locs hE => ?_)
        refine lv_aload_n hx hb dX6_takeFrom_185 rfl (lv_at hl 0 rfl) ?_
        refine lv_aload_n hx hb dX6_takeFrom_186 rfl (lv_at hl 1 rfl) ?_
        obtain ⟨x72, ex72, h⟩ := zbdE h
        refine zr_getI S hK hE zcl_X6 (zcW0 hga1 w71) 14 (Nat.le_of_ble_eq_true rfl) rfl qf_X6_53 dX6_takeFrom_187 ex72 ?_
        obtain ⟨w73, ew73, h⟩ := zbdE h
        refine zr_putI S hK hE zcl_X6 (zcW0 hgb w71) 14 (Nat.le_of_ble_eq_true rfl) rfl rfl rfl qf_X6_53 dX6_takeFrom_190 ew73 (fun H locs hE => ?_)
        refine lv_aload_n hx hb dX6_takeFrom_193 rfl (lv_at hl 0 rfl) ?_
        refine lv_aload_n hx hb dX6_takeFrom_194 rfl (lv_at hl 1 rfl) ?_
        obtain ⟨x74, ex74, h⟩ := zbdE h
        refine zr_getI S hK hE zcl_X6 (zcW0 hga1 w73) 15 (Nat.le_of_ble_eq_true rfl) rfl qf_X6_68 dX6_takeFrom_195 ex74 ?_
        obtain ⟨w75, ew75, h⟩ := zbdE h
        refine zr_putI S hK hE zcl_X6 (zcW0 hgb w73) 15 (Nat.le_of_ble_eq_true rfl) rfl rfl rfl qf_X6_68 dX6_takeFrom_198 ew75 (fun H locs hE => ?_)
        exact zr_vret S hE hr hlk h dX6_takeFrom_201
      · have h := zif' c61 h
        refine lv_aload_n hx hb dX6_takeFrom_127 rfl (lv_at hl 0 rfl) ?_
        refine zr_getA S hK hE zcl_X6 (zcW0 hgb w) 7 (Nat.le_of_ble_eq_true rfl) (q := b + 8) rfl qf_X6_36 dX6_takeFrom_128 ?_
        refine lv_iload_n hx hb dX6_takeFrom_131 rfl (lv_at hl 2 rfl) ?_
        refine lv_aload_n hx hb dX6_takeFrom_132 rfl (lv_at hl 1 rfl) ?_
        refine zr_getA S hK hE zcl_X6 (zcW0 hga1 w) 7 (Nat.le_of_ble_eq_true rfl) (q := a1 + 8) rfl qf_X6_36 dX6_takeFrom_133 ?_
        refine lv_iload_n hx hb dX6_takeFrom_136 rfl (lv_at hl 2 rfl) ?_
        obtain ⟨o76, eo76, h⟩ := zbdE h
        refine zr_aald6 S hK hE (zcW8 hga1 w) dX6_takeFrom_137 eo76 ?_
        cases o76 with
        | none =>
          have h := zoptN h
          refine W.eq (g2 := F0 m 138 ls [.null, .int l2, .ref (ad (b + 8))]) rfl ?_
          obtain ⟨w77, ew77, h⟩ := zbdE h
          refine zr_rastN S hK hE (zcW8 hgb w) dX6_takeFrom_138 ew77 (fun H locs hE => ?_)
          obtain ⟨x78, ex78, h⟩ := zbdE h
          refine lv_iinc (v := x78) (lv' := [(2, .int x78), (0, .ref (ad b)), (1, .ref (ad a1))]) hx hb dX6_takeFrom_139 hl (k := 2) rfl (zinc (k := 1) (by decide) ex78) (by decide) rfl (fun ls hl => ?_)
          refine lv_goto (tgt := 121) hx hb dX6_takeFrom_142 (by decide) ?_
          exact ih121 x78 w77 ls _ _ h (lv_sub hl [1, 2, 0] rfl) hE
        | some q79 =>
          have h := zoptS h
          refine W.eq (g2 := F0 m 138 ls [.ref (ad q79), .int l2, .ref (ad (b + 8))]) rfl ?_
          obtain ⟨hg80, h⟩ := zgrdE h
          obtain ⟨w81, ew81, h⟩ := zbdE h
          refine zr_rast S hK hE (zcW8 hgb w) (zcT0 (w := w) hg80) dX6_takeFrom_138 ew81 (fun H locs hE => ?_)
          obtain ⟨x82, ex82, h⟩ := zbdE h
          refine lv_iinc (v := x82) (lv' := [(2, .int x82), (0, .ref (ad b)), (1, .ref (ad a1))]) hx hb dX6_takeFrom_139 hl (k := 2) rfl (zinc (k := 1) (by decide) ex82) (by decide) rfl (fun ls hl => ?_)
          refine lv_goto (tgt := 121) hx hb dX6_takeFrom_142 (by decide) ?_
          exact ih121 x82 w81 ls _ _ h (lv_sub hl [1, 2, 0] rfl) hE
  refine lv_aload_n hx hb dX6_takeFrom_0 rfl (lv_at hl 1 rfl) ?_
  refine zr_getA S hK hE zcl_X6 (zcW0 hga1 w) 0 (Nat.le_of_ble_eq_true rfl) (q := a1 + 1) rfl qf_X6_9 dX6_takeFrom_1 ?_
  refine lv_iconst (v := 0) hx hb dX6_takeFrom_4 (by decide) ?_
  refine lv_aload_n hx hb dX6_takeFrom_5 rfl (lv_at hl 0 rfl) ?_
  refine zr_getA S hK hE zcl_X6 (zcW0 hgb w) 0 (Nat.le_of_ble_eq_true rfl) (q := b + 1) rfl qf_X6_9 dX6_takeFrom_6 ?_
  refine lv_iconst (v := 0) hx hb dX6_takeFrom_9 (by decide) ?_
  refine lv_bipush (v := 10) hx hb dX6_takeFrom_10 (by decide) ?_
  obtain ⟨w10001, ew10001, h⟩ := zbdE h
  refine zr_cpI S hK hE zcpy qm_X6_56 hl.1 (zcW1 hga1 w) (zcW1 hgb w) ⟨Nat.le_of_ble_eq_true rfl, Nat.le_of_ble_eq_true rfl⟩ dX6_takeFrom_12 ew10001 (fun H locs hE => ?_)
  refine lv_aload_n hx hb dX6_takeFrom_15 rfl (lv_at hl 1 rfl) ?_
  refine zr_getA S hK hE zcl_X6 (zcW0 hga1 w10001) 1 (Nat.le_of_ble_eq_true rfl) (q := a1 + 2) rfl qf_X6_15 dX6_takeFrom_16 ?_
  refine lv_iconst (v := 0) hx hb dX6_takeFrom_19 (by decide) ?_
  refine lv_aload_n hx hb dX6_takeFrom_20 rfl (lv_at hl 0 rfl) ?_
  refine zr_getA S hK hE zcl_X6 (zcW0 hgb w10001) 1 (Nat.le_of_ble_eq_true rfl) (q := b + 2) rfl qf_X6_15 dX6_takeFrom_21 ?_
  refine lv_iconst (v := 0) hx hb dX6_takeFrom_24 (by decide) ?_
  refine lv_bipush (v := 10) hx hb dX6_takeFrom_25 (by decide) ?_
  obtain ⟨w10002, ew10002, h⟩ := zbdE h
  refine zr_cpI S hK hE zcpy qm_X6_56 hl.1 (zcW2 hga1 w10001) (zcW2 hgb w10001) ⟨Nat.le_of_ble_eq_true rfl, Nat.le_of_ble_eq_true rfl⟩ dX6_takeFrom_27 ew10002 (fun H locs hE => ?_)
  refine lv_aload_n hx hb dX6_takeFrom_30 rfl (lv_at hl 1 rfl) ?_
  refine zr_getA S hK hE zcl_X6 (zcW0 hga1 w10002) 2 (Nat.le_of_ble_eq_true rfl) (q := a1 + 3) rfl qf_X6_18 dX6_takeFrom_31 ?_
  refine lv_iconst (v := 0) hx hb dX6_takeFrom_34 (by decide) ?_
  refine lv_aload_n hx hb dX6_takeFrom_35 rfl (lv_at hl 0 rfl) ?_
  refine zr_getA S hK hE zcl_X6 (zcW0 hgb w10002) 2 (Nat.le_of_ble_eq_true rfl) (q := b + 3) rfl qf_X6_18 dX6_takeFrom_36 ?_
  refine lv_iconst (v := 0) hx hb dX6_takeFrom_39 (by decide) ?_
  refine lv_bipush (v := 10) hx hb dX6_takeFrom_40 (by decide) ?_
  obtain ⟨w10003, ew10003, h⟩ := zbdE h
  refine zr_cpI S hK hE zcpy qm_X6_56 hl.1 (zcW3 hga1 w10002) (zcW3 hgb w10002) ⟨Nat.le_of_ble_eq_true rfl, Nat.le_of_ble_eq_true rfl⟩ dX6_takeFrom_42 ew10003 (fun H locs hE => ?_)
  refine lv_aload_n hx hb dX6_takeFrom_45 rfl (lv_at hl 1 rfl) ?_
  refine zr_getA S hK hE zcl_X6 (zcW0 hga1 w10003) 3 (Nat.le_of_ble_eq_true rfl) (q := a1 + 4) rfl qf_X6_21 dX6_takeFrom_46 ?_
  refine lv_iconst (v := 0) hx hb dX6_takeFrom_49 (by decide) ?_
  refine lv_aload_n hx hb dX6_takeFrom_50 rfl (lv_at hl 0 rfl) ?_
  refine zr_getA S hK hE zcl_X6 (zcW0 hgb w10003) 3 (Nat.le_of_ble_eq_true rfl) (q := b + 4) rfl qf_X6_21 dX6_takeFrom_51 ?_
  refine lv_iconst (v := 0) hx hb dX6_takeFrom_54 (by decide) ?_
  refine lv_bipush (v := 10) hx hb dX6_takeFrom_55 (by decide) ?_
  obtain ⟨w10004, ew10004, h⟩ := zbdE h
  refine zr_cpI S hK hE zcpy qm_X6_56 hl.1 (zcW4 hga1 w10003) (zcW4 hgb w10003) ⟨Nat.le_of_ble_eq_true rfl, Nat.le_of_ble_eq_true rfl⟩ dX6_takeFrom_57 ew10004 (fun H locs hE => ?_)
  refine lv_aload_n hx hb dX6_takeFrom_60 rfl (lv_at hl 1 rfl) ?_
  refine zr_getA S hK hE zcl_X6 (zcW0 hga1 w10004) 4 (Nat.le_of_ble_eq_true rfl) (q := a1 + 5) rfl qf_X6_24 dX6_takeFrom_61 ?_
  refine lv_iconst (v := 0) hx hb dX6_takeFrom_64 (by decide) ?_
  refine lv_aload_n hx hb dX6_takeFrom_65 rfl (lv_at hl 0 rfl) ?_
  refine zr_getA S hK hE zcl_X6 (zcW0 hgb w10004) 4 (Nat.le_of_ble_eq_true rfl) (q := b + 5) rfl qf_X6_24 dX6_takeFrom_66 ?_
  refine lv_iconst (v := 0) hx hb dX6_takeFrom_69 (by decide) ?_
  refine lv_bipush (v := 10) hx hb dX6_takeFrom_70 (by decide) ?_
  obtain ⟨w10005, ew10005, h⟩ := zbdE h
  refine zr_cpI S hK hE zcpy qm_X6_56 hl.1 (zcW5 hga1 w10004) (zcW5 hgb w10004) ⟨Nat.le_of_ble_eq_true rfl, Nat.le_of_ble_eq_true rfl⟩ dX6_takeFrom_72 ew10005 (fun H locs hE => ?_)
  refine lv_aload_n hx hb dX6_takeFrom_75 rfl (lv_at hl 1 rfl) ?_
  refine zr_getA S hK hE zcl_X6 (zcW0 hga1 w10005) 5 (Nat.le_of_ble_eq_true rfl) (q := a1 + 6) rfl qf_X6_27 dX6_takeFrom_76 ?_
  refine lv_iconst (v := 0) hx hb dX6_takeFrom_79 (by decide) ?_
  refine lv_aload_n hx hb dX6_takeFrom_80 rfl (lv_at hl 0 rfl) ?_
  refine zr_getA S hK hE zcl_X6 (zcW0 hgb w10005) 5 (Nat.le_of_ble_eq_true rfl) (q := b + 6) rfl qf_X6_27 dX6_takeFrom_81 ?_
  refine lv_iconst (v := 0) hx hb dX6_takeFrom_84 (by decide) ?_
  refine lv_bipush (v := 10) hx hb dX6_takeFrom_85 (by decide) ?_
  obtain ⟨w10006, ew10006, h⟩ := zbdE h
  refine zr_cpL S hK hE zcpy qm_X6_56 hl.1 (zcW6 hga1 w10005) (zcW6 hgb w10005) ⟨Nat.le_of_ble_eq_true rfl, Nat.le_of_ble_eq_true rfl⟩ dX6_takeFrom_87 ew10006 (fun H locs hE => ?_)
  refine lv_aload_n hx hb dX6_takeFrom_90 rfl (lv_at hl 1 rfl) ?_
  refine zr_getA S hK hE zcl_X6 (zcW0 hga1 w10006) 6 (Nat.le_of_ble_eq_true rfl) (q := a1 + 7) rfl qf_X6_31 dX6_takeFrom_91 ?_
  refine lv_iconst (v := 0) hx hb dX6_takeFrom_94 (by decide) ?_
  refine lv_aload_n hx hb dX6_takeFrom_95 rfl (lv_at hl 0 rfl) ?_
  refine zr_getA S hK hE zcl_X6 (zcW0 hgb w10006) 6 (Nat.le_of_ble_eq_true rfl) (q := b + 7) rfl qf_X6_31 dX6_takeFrom_96 ?_
  refine lv_iconst (v := 0) hx hb dX6_takeFrom_99 (by decide) ?_
  refine lv_bipush (v := 7) hx hb dX6_takeFrom_100 (by decide) ?_
  obtain ⟨w10007, ew10007, h⟩ := zbdE h
  refine zr_cpI S hK hE zcpy qm_X6_56 hl.1 (zcW7 hga1 w10006) (zcW7 hgb w10006) ⟨Nat.le_of_ble_eq_true rfl, Nat.le_of_ble_eq_true rfl⟩ dX6_takeFrom_102 ew10007 (fun H locs hE => ?_)
  refine lv_aload_n hx hb dX6_takeFrom_105 rfl (lv_at hl 1 rfl) ?_
  refine zr_getA S hK hE zcl_X6 (zcW0 hga1 w10007) 8 (Nat.le_of_ble_eq_true rfl) (q := a1 + 9) rfl qf_X6_40 dX6_takeFrom_106 ?_
  refine lv_iconst (v := 0) hx hb dX6_takeFrom_109 (by decide) ?_
  refine lv_aload_n hx hb dX6_takeFrom_110 rfl (lv_at hl 0 rfl) ?_
  refine zr_getA S hK hE zcl_X6 (zcW0 hgb w10007) 8 (Nat.le_of_ble_eq_true rfl) (q := b + 9) rfl qf_X6_40 dX6_takeFrom_111 ?_
  refine lv_iconst (v := 0) hx hb dX6_takeFrom_114 (by decide) ?_
  refine lv_iconst (v := 3) hx hb dX6_takeFrom_115 (by decide) ?_
  obtain ⟨w10008, ew10008, h⟩ := zbdE h
  refine zr_cpI S hK hE zcpy qm_X6_56 hl.1 (zcW9 hga1 w10007) (zcW9 hgb w10007) ⟨Nat.le_of_ble_eq_true rfl, Nat.le_of_ble_eq_true rfl⟩ dX6_takeFrom_116 ew10008 (fun H locs hE => ?_)
  refine lv_iconst (v := 0) hx hb dX6_takeFrom_119 (by decide) ?_
  refine lv_istore_n (lv' := [(2, .int 0), (0, .ref (ad b)), (1, .ref (ad a1))]) hx hb dX6_takeFrom_120 rfl hl (by decide) rfl (fun ls hl => ?_)
  exact L121 zfuel 0 w10008 ls _ _ h (lv_sub hl [1, 2, 0] rfl) hE
