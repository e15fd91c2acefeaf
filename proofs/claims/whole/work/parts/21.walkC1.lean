set_option maxHeartbeats 4000000 in
set_option maxRecDepth 100000 in
theorem kX1_wish (l : Launch) (D : va_G) (tc : Nat → ClassId) (lo : Nat) (ad : Nat → Nat) (fr : va_W) (zq : zz_Q) (a1 : Nat) (w : zz_W) (w_ : zz_W) (h : fX1_wish a1 w = some w_) : zMv l yX1_wish cX1_wish 3 none { frames := 2, cells := 0, slots := 0, locals := 42 } D tc lo ad zshC znnC fr zq [.ref (ad 31), .ref (ad a1)] w w_ := by
  refine zr_entry (by decide) (Nat.le_of_ble_eq_true rfl) fun p e s m args below meth c ls S hX hr hlk hE hl => ?_
  have S : CallFix p m c cX1_wish 3 s args (Cond.code yX1_wish cX1_wish 3 none :: zw_tb) RX1 := S
  have hx := S.1
  have hb := S.2.1
  have hK := hX.2.1
  have hl : lv_has ls 3 [(0, .ref (ad 31)), (1, .ref (ad a1))] := hl
  unfold fX1_wish at h
  obtain ⟨hga1, h⟩ := zgrdE h
  have L7 : ∀ (n : Nat) (l2 : Int32) (w : zz_W) (ls : Array Slot) (H : Heap) (locs : List Loc), fX1_wish_7 a1 n l2 w = some w_ → lv_has ls 3 [(0, .ref (ad 31)), (1, .ref (ad a1)), (2, .int l2)] → zE D tc lo ad zshC znnC fr w s.heap H locs → W p l e { frames := 2, cells := 0, slots := 0, locals := 42 } s m args below meth c H locs 0 0 (zZv D tc lo ad zshC znnC fr below args s w_) (F0 m 7 ls []) := by
    intro n7
    induction n7 with
    | zero => intro l2 w ls H locs h hl hE; rw [fX1_wish_7] at h; cases h
    | succ n7 ih7 =>
      intro l2 w ls H locs h hl hE
      rw [fX1_wish_7] at h
      refine lv_iload_n hx hb dX1_wish_7 rfl (lv_at hl 2 rfl) ?_
      refine lv_aload_n hx hb dX1_wish_8 rfl (lv_at hl 1 rfl) ?_
      obtain ⟨x33, ex33, h⟩ := zbdE h
      refine zr_getI S hK hE zcl_X2 (zcS0 hga1 w) 2 (Nat.le_of_ble_eq_true rfl) rfl qf_X1_29 dX1_wish_9 ex33 ?_
      refine lv_icmp_ge (tgt := 67) hx hb dX1_wish_12 (by decide) (fun c34 => ?_) (fun c34 => ?_)
      · have h := zif c34 h
        exact zr_vret S hE hr hlk h dX1_wish_67
      · have h := zif' c34 h
        refine lv_aload_n hx hb dX1_wish_15 rfl (lv_at hl 0 rfl) ?_
        obtain ⟨x35, ex35, h⟩ := zbdE h
        refine zr_getI S hK hE zcl_X1 (zc_31 w) 0 (Nat.le_of_ble_eq_true rfl) rfl qf_X1_25 dX1_wish_16 ex35 ?_
        refine lv_bipush (v := 24) hx hb dX1_wish_19 (by decide) ?_
        refine lv_icmp_ge (tgt := 67) hx hb dX1_wish_21 (by decide) (fun c36 => ?_) (fun c36 => ?_)
        · have h := zif c36 h
          exact zr_vret S hE hr hlk h dX1_wish_67
        · have h := zif' c36 h
          refine lv_aload_n hx hb dX1_wish_24 rfl (lv_at hl 1 rfl) ?_
          refine zr_getA S hK hE zcl_X2 (zcS0 hga1 w) 0 (Nat.le_of_ble_eq_true rfl) (q := a1 + 1) rfl qf_X1_34 dX1_wish_25 ?_
          refine lv_iload_n hx hb dX1_wish_28 rfl (lv_at hl 2 rfl) ?_
          obtain ⟨x37, ex37, h⟩ := zbdE h
          refine zr_iald S hK hE (zcS1 hga1 w) dX1_wish_29 ex37 ?_
          obtain ⟨x38, w39, ew39, h⟩ := zbd2E h
          refine zr_i (zr_runSN (As := [.int x37]) S hX hE (kX7_isCell l D tc lo ad fr zq x37 w x38 w39 ew39) zyX7_isCell qn_X1_37 ⟨rfl, rfl⟩ ⟨Nat.le_of_ble_eq_true rfl, Nat.le_of_ble_eq_true rfl⟩ rfl hl.1 rfl (Nat.le_of_ble_eq_true rfl) dX1_wish_30 ⟨Nat.zero_le _, Nat.zero_le _⟩) hE (fun H locs hE => ?_)
          refine lv_if_eq (tgt := 61) hx hb dX1_wish_33 (by decide) (fun c40 => ?_) (fun c40 => ?_)
          · have h := zif c40 h
            obtain ⟨x41, ex41, h⟩ := zbdE h
            refine lv_iinc (v := x41) (lv' := [(2, .int x41), (0, .ref (ad 31)), (1, .ref (ad a1))]) hx hb dX1_wish_61 hl (k := 2) rfl (zinc (k := 1) (by decide) ex41) (by decide) rfl (fun ls hl => ?_)
            refine lv_goto (tgt := 7) hx hb dX1_wish_64 (by decide) ?_
            exact ih7 x41 w39 ls _ _ h (lv_sub hl [1, 2, 0] rfl) hE
          · have h := zif' c40 h
            refine lv_aload_n hx hb dX1_wish_36 rfl (lv_at hl 0 rfl) ?_
            refine zr_getA S hK hE zcl_X1 (zc_31 w39) 4 (Nat.le_of_ble_eq_true rfl) (q := 32) rfl qf_X1_9 dX1_wish_37 ?_
            refine lv_aload_n hx hb dX1_wish_40 rfl (lv_at hl 0 rfl) ?_
            obtain ⟨x42, ex42, h⟩ := zbdE h
            refine zr_getI S hK hE zcl_X1 (zc_31 w39) 0 (Nat.le_of_ble_eq_true rfl) rfl qf_X1_25 dX1_wish_41 ex42 ?_
            refine lv_aload_n hx hb dX1_wish_44 rfl (lv_at hl 1 rfl) ?_
            refine zr_getA S hK hE zcl_X2 (zcS0 hga1 w39) 0 (Nat.le_of_ble_eq_true rfl) (q := a1 + 1) rfl qf_X1_34 dX1_wish_45 ?_
            refine lv_iload_n hx hb dX1_wish_48 rfl (lv_at hl 2 rfl) ?_
            obtain ⟨x43, ex43, h⟩ := zbdE h
            refine zr_iald S hK hE (zcS1 hga1 w39) dX1_wish_49 ex43 ?_
            obtain ⟨w44, ew44, h⟩ := zbdE h
            refine zr_iast S hK hE (zc_32 w39) dX1_wish_50 ew44 (fun H locs hE => ?_)
            refine lv_aload_n hx hb dX1_wish_51 rfl (lv_at hl 0 rfl) ?_
            refine lv_dup hx hb dX1_wish_52 rfl ?_
            obtain ⟨x45, ex45, h⟩ := zbdE h
            refine zr_getI S hK hE zcl_X1 (zc_31 w44) 0 (Nat.le_of_ble_eq_true rfl) rfl qf_X1_25 dX1_wish_53 ex45 ?_
            refine lv_iconst (v := 1) hx hb dX1_wish_56 (by decide) ?_
            refine lv_iadd hx hb dX1_wish_57 ?_
            obtain ⟨w46, ew46, h⟩ := zbdE h
            refine zr_putI S hK hE zcl_X1 (zc_31 w44) 0 (Nat.le_of_ble_eq_true rfl) rfl rfl rfl qf_X1_25 dX1_wish_58 ew46 (fun H locs hE => ?_)
            obtain ⟨x47, ex47, h⟩ := zbdE h
            refine lv_iinc (v := x47) (lv' := [(2, .int x47), (0, .ref (ad 31)), (1, .ref (ad a1))]) hx hb dX1_wish_61 hl (k := 2) rfl (zinc (k := 1) (by decide) ex47) (by decide) rfl (fun ls hl => ?_)
            refine lv_goto (tgt := 7) hx hb dX1_wish_64 (by decide) ?_
            exact ih7 x47 w46 ls _ _ h (lv_sub hl [1, 2, 0] rfl) hE
  refine lv_aload_n hx hb dX1_wish_0 rfl (lv_at hl 0 rfl) ?_
  refine lv_iconst (v := 0) hx hb dX1_wish_1 (by decide) ?_
  obtain ⟨w10001, ew10001, h⟩ := zbdE h
  refine zr_putI S hK hE zcl_X1 (zc_31 w) 0 (Nat.le_of_ble_eq_true rfl) rfl rfl rfl qf_X1_25 dX1_wish_2 ew10001 (fun H locs hE => ?_)
  refine lv_iconst (v := 0) hx hb dX1_wish_5 (by decide) ?_
  refine lv_istore_n (lv' := [(2, .int 0), (0, .ref (ad 31)), (1, .ref (ad a1))]) hx hb dX1_wish_6 rfl hl (by decide) rfl (fun ls hl => ?_)
  exact L7 zfuel 0 w10001 ls _ _ h (lv_sub hl [1, 2, 0] rfl) hE
set_option maxHeartbeats 4000000 in
set_option maxRecDepth 100000 in
theorem kX2_hasPlace (l : Launch) (D : va_G) (tc : Nat → ClassId) (lo : Nat) (ad : Nat → Nat) (fr : va_W) (zq : zz_Q) (k : Nat) (a1 : Int32) (w : zz_W) (r : Int32) (w_ : zz_W) (h : fX2_hasPlace k a1 w = some (r, w_)) : zMi l yX2_hasPlace cX2_hasPlace 2 (some .boolean) { frames := 1, cells := 0, slots := 0, locals := 22 } D tc lo ad zshC znnC fr zq [.ref (ad k), .int a1] w r w_ := by
  refine zr_entry (by decide) (Nat.le_of_ble_eq_true rfl) fun p e s m args below meth c ls S hX hr hlk hE hl => ?_
  have S : CallFix p m c cX2_hasPlace 2 s args (Cond.code yX2_hasPlace cX2_hasPlace 2 (some .boolean) :: zw_tb) RX2 := S
  have hx := S.1
  have hb := S.2.1
  have hK := hX.2.1
  have hl : lv_has ls 2 [(0, .ref (ad k)), (1, .int a1)] := hl
  unfold fX2_hasPlace at h
  obtain ⟨hgk, h⟩ := zgrdE h
  refine lv_iload_n hx hb dX2_hasPlace_0 rfl (lv_at hl 1 rfl) ?_
  refine lv_iconst (v := 0) hx hb dX2_hasPlace_1 (by decide) ?_
  refine lv_aload_n hx hb dX2_hasPlace_2 rfl (lv_at hl 0 rfl) ?_
  obtain ⟨x10001, ex10001, h⟩ := zbdE h
  refine zr_getI S hK hE zcl_X2 (zcS0 hgk w) 2 (Nat.le_of_ble_eq_true rfl) rfl qf_X2_19 dX2_hasPlace_3 ex10001 ?_
  refine lv_iconst (v := 1) hx hb dX2_hasPlace_6 (by decide) ?_
  refine lv_isub hx hb dX2_hasPlace_7 ?_
  obtain ⟨x10002, w10003, ew10003, h⟩ := zbd2E h
  refine zr_i (zr_runSN (As := [.int a1, .int 0, .int (x10001 - 1)]) S hX hE (kX7_within l D tc lo ad fr zq a1 0 (x10001 - 1) w x10002 w10003 ew10003) zyX7_within qn_X2_22 ⟨rfl, rfl⟩ ⟨Nat.le_of_ble_eq_true rfl, Nat.le_of_ble_eq_true rfl⟩ rfl hl.1 rfl (Nat.le_of_ble_eq_true rfl) dX2_hasPlace_8 ⟨Nat.zero_le _, Nat.zero_le _⟩) hE (fun H locs hE => ?_)
  obtain ⟨x10004, ex10004, h⟩ := zbdE h
  obtain ⟨ezx10004, enx10004⟩ := zboo_in ex10004
  refine zr_topi (congrArg some ezx10004) ?_
  exact zr_zret S hE hr hlk enx10004 h dX2_hasPlace_11
set_option maxHeartbeats 4000000 in
set_option maxRecDepth 100000 in
theorem kX2_hasPlaces (l : Launch) (D : va_G) (tc : Nat → ClassId) (lo : Nat) (ad : Nat → Nat) (fr : va_W) (zq : zz_Q) (k : Nat) (a1 : Int32) (a2 : Int32) (w : zz_W) (r : Int32) (w_ : zz_W) (h : fX2_hasPlaces k a1 a2 w = some (r, w_)) : zMi l yX2_hasPlaces cX2_hasPlaces 3 (some .boolean) { frames := 0, cells := 0, slots := 0, locals := 0 } D tc lo ad zshC znnC fr zq [.ref (ad k), .int a1, .int a2] w r w_ := by
  refine zr_entry (by decide) (Nat.le_of_ble_eq_true rfl) fun p e s m args below meth c ls S hX hr hlk hE hl => ?_
  have S : CallFix p m c cX2_hasPlaces 3 s args (Cond.code yX2_hasPlaces cX2_hasPlaces 3 (some .boolean) :: zw_tb) RX2 := S
  have hx := S.1
  have hb := S.2.1
  have hK := hX.2.1
  have hl : lv_has ls 3 [(0, .ref (ad k)), (1, .int a1), (2, .int a2)] := hl
  unfold fX2_hasPlaces at h
  obtain ⟨hgk, h⟩ := zgrdE h
  refine lv_iload_n hx hb dX2_hasPlaces_0 rfl (lv_at hl 2 rfl) ?_
  refine lv_if_lt (tgt := 22) hx hb dX2_hasPlaces_1 (by decide) (fun c10001 => ?_) (fun c10001 => ?_)
  · have h := zif c10001 h
    refine lv_iconst (v := 0) hx hb dX2_hasPlaces_22 (by decide) ?_
    exact zr_zret S hE hr hlk (by decide) h dX2_hasPlaces_23
  · have h := zif' c10001 h
    refine lv_iload_n hx hb dX2_hasPlaces_4 rfl (lv_at hl 1 rfl) ?_
    refine lv_if_lt (tgt := 22) hx hb dX2_hasPlaces_5 (by decide) (fun c10002 => ?_) (fun c10002 => ?_)
    · have h := zif c10002 h
      refine lv_iconst (v := 0) hx hb dX2_hasPlaces_22 (by decide) ?_
      exact zr_zret S hE hr hlk (by decide) h dX2_hasPlaces_23
    · have h := zif' c10002 h
      refine lv_iload_n hx hb dX2_hasPlaces_8 rfl (lv_at hl 1 rfl) ?_
      refine lv_aload_n hx hb dX2_hasPlaces_9 rfl (lv_at hl 0 rfl) ?_
      obtain ⟨x10003, ex10003, h⟩ := zbdE h
      refine zr_getI S hK hE zcl_X2 (zcS0 hgk w) 2 (Nat.le_of_ble_eq_true rfl) rfl qf_X2_19 dX2_hasPlaces_10 ex10003 ?_
      refine lv_iload_n hx hb dX2_hasPlaces_13 rfl (lv_at hl 2 rfl) ?_
      refine lv_isub hx hb dX2_hasPlaces_14 ?_
      refine lv_icmp_gt (tgt := 22) hx hb dX2_hasPlaces_15 (by decide) (fun c10004 => ?_) (fun c10004 => ?_)
      · have h := zif c10004 h
        refine lv_iconst (v := 0) hx hb dX2_hasPlaces_22 (by decide) ?_
        exact zr_zret S hE hr hlk (by decide) h dX2_hasPlaces_23
      · have h := zif' c10004 h
        refine lv_iconst (v := 1) hx hb dX2_hasPlaces_18 (by decide) ?_
        refine lv_goto (tgt := 23) hx hb dX2_hasPlaces_19 (by decide) ?_
        exact zr_zret S hE hr hlk (by decide) h dX2_hasPlaces_23
set_option maxHeartbeats 4000000 in
set_option maxRecDepth 100000 in
theorem kX2_isMissing (l : Launch) (D : va_G) (tc : Nat → ClassId) (lo : Nat) (ad : Nat → Nat) (fr : va_W) (zq : zz_Q) (k : Nat) (w : zz_W) (r : Int32) (w_ : zz_W) (h : fX2_isMissing k w = some (r, w_)) : zMi l yX2_isMissing cX2_isMissing 1 (some .boolean) { frames := 0, cells := 0, slots := 0, locals := 0 } D tc lo ad zshC znnC fr zq [.ref (ad k)] w r w_ := by
  refine zr_entry (by decide) (Nat.le_of_ble_eq_true rfl) fun p e s m args below meth c ls S hX hr hlk hE hl => ?_
  have S : CallFix p m c cX2_isMissing 1 s args (Cond.code yX2_isMissing cX2_isMissing 1 (some .boolean) :: zw_tb) RX2 := S
  have hx := S.1
  have hb := S.2.1
  have hK := hX.2.1
  have hl : lv_has ls 1 [(0, .ref (ad k))] := hl
  unfold fX2_isMissing at h
  obtain ⟨hgk, h⟩ := zgrdE h
  refine lv_aload_n hx hb dX2_isMissing_0 rfl (lv_at hl 0 rfl) ?_
  obtain ⟨x10001, ex10001, h⟩ := zbdE h
  refine zr_getI S hK hE zcl_X2 (zcS0 hgk w) 1 (Nat.le_of_ble_eq_true rfl) rfl qf_X2_15 dX2_isMissing_1 ex10001 ?_
  refine lv_iconst (v := (-1)) hx hb dX2_isMissing_4 (by decide) ?_
  refine lv_icmp_ne (tgt := 12) hx hb dX2_isMissing_5 (by decide) (fun c10002 => ?_) (fun c10002 => ?_)
  · have h := zif' c10002 h
    refine lv_iconst (v := 0) hx hb dX2_isMissing_12 (by decide) ?_
    exact zr_zret S hE hr hlk (by decide) h dX2_isMissing_13
  · have h := zif c10002 h
    refine lv_iconst (v := 1) hx hb dX2_isMissing_8 (by decide) ?_
    refine lv_goto (tgt := 13) hx hb dX2_isMissing_9 (by decide) ?_
    exact zr_zret S hE hr hlk (by decide) h dX2_isMissing_13
set_option maxHeartbeats 4000000 in
set_option maxRecDepth 100000 in
theorem kX2_isNumber (l : Launch) (D : va_G) (tc : Nat → ClassId) (lo : Nat) (ad : Nat → Nat) (fr : va_W) (zq : zz_Q) (k : Nat) (a1 : Int32) (w : zz_W) (r : Int32) (w_ : zz_W) (h : fX2_isNumber k a1 w = some (r, w_)) : zMi l yX2_isNumber cX2_isNumber 2 (some .boolean) { frames := 0, cells := 0, slots := 0, locals := 0 } D tc lo ad zshC znnC fr zq [.ref (ad k), .int a1] w r w_ := by
  refine zr_entry (by decide) (Nat.le_of_ble_eq_true rfl) fun p e s m args below meth c ls S hX hr hlk hE hl => ?_
  have S : CallFix p m c cX2_isNumber 2 s args (Cond.code yX2_isNumber cX2_isNumber 2 (some .boolean) :: zw_tb) RX2 := S
  have hx := S.1
  have hb := S.2.1
  have hK := hX.2.1
  have hl : lv_has ls 2 [(0, .ref (ad k)), (1, .int a1)] := hl
  unfold fX2_isNumber at h
  obtain ⟨hgk, h⟩ := zgrdE h
  refine lv_aload_n hx hb dX2_isNumber_0 rfl (lv_at hl 0 rfl) ?_
  refine zr_getA S hK hE zcl_X2 (zcS0 hgk w) 0 (Nat.le_of_ble_eq_true rfl) (q := k + 1) rfl qf_X2_9 dX2_isNumber_1 ?_
  refine lv_iload_n hx hb dX2_isNumber_4 rfl (lv_at hl 1 rfl) ?_
  obtain ⟨x10001, ex10001, h⟩ := zbdE h
  refine zr_iald S hK hE (zcS1 hgk w) dX2_isNumber_5 ex10001 ?_
  refine zr_ldc S qc_X2_26 dX2_isNumber_6 ?_
  refine lv_icmp_eq (tgt := 15) hx hb dX2_isNumber_8 (by decide) (fun c10002 => ?_) (fun c10002 => ?_)
  · have h := zif c10002 h
    refine lv_iconst (v := 0) hx hb dX2_isNumber_15 (by decide) ?_
    exact zr_zret S hE hr hlk (by decide) h dX2_isNumber_16
  · have h := zif' c10002 h
    refine lv_iconst (v := 1) hx hb dX2_isNumber_11 (by decide) ?_
    refine lv_goto (tgt := 16) hx hb dX2_isNumber_12 (by decide) ?_
    exact zr_zret S hE hr hlk (by decide) h dX2_isNumber_16
set_option maxHeartbeats 4000000 in
set_option maxRecDepth 100000 in
theorem kX2_placesOn (l : Launch) (D : va_G) (tc : Nat → ClassId) (lo : Nat) (ad : Nat → Nat) (fr : va_W) (zq : zz_Q) (k : Nat) (a1 : Int64) (w : zz_W) (r : Int32) (w_ : zz_W) (h : fX2_placesOn k a1 w = some (r, w_)) : zMi l yX2_placesOn cX2_placesOn 5 (some .int) { frames := 2, cells := 0, slots := 0, locals := 42 } D tc lo ad zshC znnC fr zq [.ref (ad k), .long a1] w r w_ := by
  refine zr_entry (by decide) (Nat.le_of_ble_eq_true rfl) fun p e s m args below meth c ls S hX hr hlk hE hl => ?_
  have S : CallFix p m c cX2_placesOn 5 s args (Cond.code yX2_placesOn cX2_placesOn 5 (some .int) :: zw_tb) RX2 := S
  have hx := S.1
  have hb := S.2.1
  have hK := hX.2.1
  have hl : lv_has ls 5 [(0, .ref (ad k)), (1, .long a1)] := hl
  unfold fX2_placesOn at h
  obtain ⟨hgk, h⟩ := zgrdE h
  have L5 : ∀ (n : Nat) (l1 : Int64) (l3 : Int32) (l4 : Int32) (w : zz_W) (ls : Array Slot) (H : Heap) (locs : List Loc), fX2_placesOn_5 k a1 n l1 l3 l4 w = some (r, w_) → lv_has ls 5 [(0, .ref (ad k)), (1, .long l1), (3, .int l3), (4, .int l4)] → zE D tc lo ad zshC znnC fr w s.heap H locs → W p l e { frames := 2, cells := 0, slots := 0, locals := 42 } s m args below meth c H locs 0 0 (zZi D tc lo ad zshC znnC fr below args s r w_) (F0 m 5 ls []) := by
    intro n5
    induction n5 with
    | zero => intro l1 l3 l4 w ls H locs h hl hE; rw [fX2_placesOn_5] at h; cases h
    | succ n5 ih5 =>
      intro l1 l3 l4 w ls H locs h hl hE
      rw [fX2_placesOn_5] at h
      refine lv_iload hx hb dX2_placesOn_5 (lv_at hl 3 rfl) ?_
      refine lv_aload_n hx hb dX2_placesOn_7 rfl (lv_at hl 0 rfl) ?_
      obtain ⟨x29, ex29, h⟩ := zbdE h
      refine zr_getI S hK hE zcl_X2 (zcS0 hgk w) 2 (Nat.le_of_ble_eq_true rfl) rfl qf_X2_19 dX2_placesOn_8 ex29 ?_
      refine lv_icmp_ge (tgt := 50) hx hb dX2_placesOn_11 (by decide) (fun c30 => ?_) (fun c30 => ?_)
      · have h := zif c30 h
        refine lv_iload_n hx hb dX2_placesOn_50 rfl (lv_at hl 2 rfl) ?_
        exact zr_iret S hE hr hlk h dX2_placesOn_51
      · have h := zif' c30 h
        refine lv_aload_n hx hb dX2_placesOn_14 rfl (lv_at hl 0 rfl) ?_
        refine zr_getA S hK hE zcl_X2 (zcS0 hgk w) 0 (Nat.le_of_ble_eq_true rfl) (q := k + 1) rfl qf_X2_9 dX2_placesOn_15 ?_
        refine lv_iload hx hb dX2_placesOn_18 (lv_at hl 3 rfl) ?_
        obtain ⟨x31, ex31, h⟩ := zbdE h
        refine zr_iald S hK hE (zcS1 hgk w) dX2_placesOn_20 ex31 ?_
        obtain ⟨x32, w33, ew33, h⟩ := zbd2E h
        refine zr_i (zr_runSN (As := [.int x31]) S hX hE (kX7_isCell l D tc lo ad fr zq x31 w x32 w33 ew33) zyX7_isCell qn_X2_39 ⟨rfl, rfl⟩ ⟨Nat.le_of_ble_eq_true rfl, Nat.le_of_ble_eq_true rfl⟩ rfl hl.1 rfl (Nat.le_of_ble_eq_true rfl) dX2_placesOn_21 ⟨Nat.zero_le _, Nat.zero_le _⟩) hE (fun H locs hE => ?_)
        refine lv_if_eq (tgt := 44) hx hb dX2_placesOn_24 (by decide) (fun c34 => ?_) (fun c34 => ?_)
        · have h := zif c34 h
          obtain ⟨x35, ex35, h⟩ := zbdE h
          refine lv_iinc (v := x35) (lv' := [(4, .int x35), (0, .ref (ad k)), (1, .long l1), (3, .int l3)]) hx hb dX2_placesOn_44 hl (k := 3) rfl (zinc (k := 1) (by decide) ex35) (by decide) rfl (fun ls hl => ?_)
          refine lv_goto (tgt := 5) hx hb dX2_placesOn_47 (by decide) ?_
          exact ih5 l1 l3 x35 w33 ls _ _ h (lv_sub hl [1, 2, 3, 0] rfl) hE
        · have h := zif' c34 h
          refine lv_lload_n hx hb dX2_placesOn_27 rfl (lv_at hl 1 rfl) ?_
          refine lv_aload_n hx hb dX2_placesOn_28 rfl (lv_at hl 0 rfl) ?_
          refine zr_getA S hK hE zcl_X2 (zcS0 hgk w33) 0 (Nat.le_of_ble_eq_true rfl) (q := k + 1) rfl qf_X2_9 dX2_placesOn_29 ?_
          refine lv_iload hx hb dX2_placesOn_32 (lv_at hl 3 rfl) ?_
          obtain ⟨x36, ex36, h⟩ := zbdE h
          refine zr_iald S hK hE (zcS1 hgk w33) dX2_placesOn_34 ex36 ?_
          obtain ⟨x37, w38, ew38, h⟩ := zbd2E h
          refine zr_i (zr_runS (As := [.long l1, .int x36]) S hX hE (kX0_has l D tc lo ad fr zq l1 x36 w33 x37 w38 ew38) zyX0_has qm_X2_43 ⟨rfl, rfl⟩ ⟨Nat.le_of_ble_eq_true rfl, Nat.le_of_ble_eq_true rfl⟩ rfl hl.1 rfl (Nat.le_of_ble_eq_true rfl) dX2_placesOn_35 ⟨Nat.zero_le _, Nat.zero_le _⟩) hE (fun H locs hE => ?_)
          refine lv_if_eq (tgt := 44) hx hb dX2_placesOn_38 (by decide) (fun c39 => ?_) (fun c39 => ?_)
          · have h := zif c39 h
            obtain ⟨x40, ex40, h⟩ := zbdE h
            refine lv_iinc (v := x40) (lv' := [(4, .int x40), (0, .ref (ad k)), (1, .long l1), (3, .int l3)]) hx hb dX2_placesOn_44 hl (k := 3) rfl (zinc (k := 1) (by decide) ex40) (by decide) rfl (fun ls hl => ?_)
            refine lv_goto (tgt := 5) hx hb dX2_placesOn_47 (by decide) ?_
            exact ih5 l1 l3 x40 w38 ls _ _ h (lv_sub hl [1, 2, 3, 0] rfl) hE
          · have h := zif' c39 h
            obtain ⟨x41, ex41, h⟩ := zbdE h
            refine lv_iinc (v := x41) (lv' := [(3, .int x41), (0, .ref (ad k)), (1, .long l1), (4, .int l4)]) hx hb dX2_placesOn_41 hl (k := 2) rfl (zinc (k := 1) (by decide) ex41) (by decide) rfl (fun ls hl => ?_)
            obtain ⟨x42, ex42, h⟩ := zbdE h
            refine lv_iinc (v := x42) (lv' := [(4, .int x42), (3, .int x41), (0, .ref (ad k)), (1, .long l1)]) hx hb dX2_placesOn_44 hl (k := 3) rfl (zinc (k := 1) (by decide) ex42) (by decide) rfl (fun ls hl => ?_)
            refine lv_goto (tgt := 5) hx hb dX2_placesOn_47 (by decide) ?_
            exact ih5 l1 x41 x42 w38 ls _ _ h (lv_sub hl [2, 3, 1, 0] rfl) hE
  refine lv_iconst (v := 0) hx hb dX2_placesOn_0 (by decide) ?_
  refine lv_istore_n (lv' := [(3, .int 0), (0, .ref (ad k)), (1, .long a1)]) hx hb dX2_placesOn_1 rfl hl (by decide) rfl (fun ls hl => ?_)
  refine lv_iconst (v := 0) hx hb dX2_placesOn_2 (by decide) ?_
  refine lv_istore (lv' := [(4, .int 0), (3, .int 0), (0, .ref (ad k)), (1, .long a1)]) hx hb dX2_placesOn_3 hl (by decide) rfl (fun ls hl => ?_)
  exact L5 zfuel a1 0 0 w ls _ _ h (lv_sub hl [2, 3, 1, 0] rfl) hE
set_option maxHeartbeats 4000000 in
set_option maxRecDepth 100000 in
theorem kJ7_fill_53178 (l : Launch) (D : va_G) (tc : Nat → ClassId) (lo : Nat) (ad : Nat → Nat) (fr : va_W) (zq : zz_Q) (a1 : Nat) (a2 : Int32) (w : zz_W) (w_ : zz_W) (h : fJ7_fill_53178 a1 a2 w = some w_) : zMv l yJ7_fill_53178 cJ7_fill_53178 4 none { frames := 0, cells := 0, slots := 0, locals := 0 } D tc lo ad zshC znnC fr zq [.ref (ad a1), .int a2] w w_ := by
  refine zr_entry (by decide) (Nat.le_of_ble_eq_true rfl) fun p e s m args below meth c ls S hX hr hlk hE hl => ?_
  have S : CallFix p m c cJ7_fill_53178 4 s args (Cond.code yJ7_fill_53178 cJ7_fill_53178 4 none :: zw_tb) RJ7 := S
  have hx := S.1
  have hb := S.2.1
  have hK := hX.2.1
  have hl : lv_has ls 4 [(0, .ref (ad a1)), (1, .int a2)] := hl
  unfold fJ7_fill_53178 at h
  obtain ⟨hga1, h⟩ := zgrdE h
  have L5 : ∀ (n : Nat) (l1 : Int32) (l2 : Int32) (l3 : Int32) (w : zz_W) (ls : Array Slot) (H : Heap) (locs : List Loc), fJ7_fill_53178_5 a1 a2 n l1 l2 l3 w = some w_ → lv_has ls 4 [(0, .ref (ad a1)), (1, .int l1), (2, .int l2), (3, .int l3)] → zE D tc lo ad zshC znnC fr w s.heap H locs → W p l e { frames := 0, cells := 0, slots := 0, locals := 0 } s m args below meth c H locs 0 0 (zZv D tc lo ad zshC znnC fr below args s w_) (F0 m 5 ls []) := by
    intro n5
    induction n5 with
    | zero => intro l1 l2 l3 w ls H locs h hl hE; rw [fJ7_fill_53178_5] at h; cases h
    | succ n5 ih5 =>
      intro l1 l2 l3 w ls H locs h hl hE
      rw [fJ7_fill_53178_5] at h
      refine lv_iload_n hx hb dJ7_fill_53178_5 rfl (lv_at hl 2 rfl) ?_
      refine lv_iload_n hx hb dJ7_fill_53178_6 rfl (lv_at hl 3 rfl) ?_
      refine lv_icmp_ge (tgt := 20) hx hb dJ7_fill_53178_7 (by decide) (fun c9 => ?_) (fun c9 => ?_)
      · have h := zif c9 h
        exact zr_vret S hE hr hlk h dJ7_fill_53178_20
      · have h := zif' c9 h
        refine lv_aload_n hx hb dJ7_fill_53178_10 rfl (lv_at hl 0 rfl) ?_
        refine lv_iload_n hx hb dJ7_fill_53178_11 rfl (lv_at hl 2 rfl) ?_
        refine lv_iload_n hx hb dJ7_fill_53178_12 rfl (lv_at hl 1 rfl) ?_
        obtain ⟨w10, ew10, h⟩ := zbdE h
        refine zr_iast S hK hE (zc_X hga1 w) dJ7_fill_53178_13 ew10 (fun H locs hE => ?_)
        obtain ⟨x11, ex11, h⟩ := zbdE h
        refine lv_iinc (v := x11) (lv' := [(2, .int x11), (0, .ref (ad a1)), (1, .int l1), (3, .int l3)]) hx hb dJ7_fill_53178_14 hl (k := 2) rfl (zinc (k := 1) (by decide) ex11) (by decide) rfl (fun ls hl => ?_)
        refine lv_goto (tgt := 5) hx hb dJ7_fill_53178_17 (by decide) ?_
        exact ih5 l1 x11 l3 w10 ls _ _ h (lv_sub hl [1, 2, 0, 3] rfl) hE
  refine lv_iconst (v := 0) hx hb dJ7_fill_53178_0 (by decide) ?_
  refine lv_istore_n (lv' := [(2, .int 0), (0, .ref (ad a1)), (1, .int a2)]) hx hb dJ7_fill_53178_1 rfl hl (by decide) rfl (fun ls hl => ?_)
  refine lv_aload_n hx hb dJ7_fill_53178_2 rfl (lv_at hl 1 rfl) ?_
  refine zr_alen S hK hE (zc_X hga1 w) rfl dJ7_fill_53178_3 ?_
  obtain ⟨x10001, ex10001, h⟩ := zbdE h
  refine zr_topi ex10001 ?_
  refine lv_istore_n (lv' := [(3, .int x10001), (2, .int 0), (0, .ref (ad a1)), (1, .int a2)]) hx hb dJ7_fill_53178_4 rfl hl (by decide) rfl (fun ls hl => ?_)
  exact L5 zfuel a2 0 x10001 w ls _ _ h (lv_sub hl [2, 3, 1, 0] rfl) hE
set_option maxHeartbeats 4000000 in
set_option maxRecDepth 100000 in
theorem kX2_renew (l : Launch) (D : va_G) (tc : Nat → ClassId) (lo : Nat) (ad : Nat → Nat) (fr : va_W) (zq : zz_Q) (k : Nat) (a1 : Int32) (a2 : Int32) (w : zz_W) (w_ : zz_W) (h : fX2_renew k a1 a2 w = some w_) : zMv l yX2_renew cX2_renew 3 none { frames := 1, cells := 0, slots := 0, locals := 23 } D tc lo ad zshC znnC fr zq [.ref (ad k), .int a1, .int a2] w w_ := by
  refine zr_entry (by decide) (Nat.le_of_ble_eq_true rfl) fun p e s m args below meth c ls S hX hr hlk hE hl => ?_
  have S : CallFix p m c cX2_renew 3 s args (Cond.code yX2_renew cX2_renew 3 none :: zw_tb) RX2 := S
  have hx := S.1
  have hb := S.2.1
  have hK := hX.2.1
  have hl : lv_has ls 3 [(0, .ref (ad k)), (1, .int a1), (2, .int a2)] := hl
  unfold fX2_renew at h
  obtain ⟨hgk, h⟩ := zgrdE h
  refine lv_aload_n hx hb dX2_renew_0 rfl (lv_at hl 0 rfl) ?_
  refine lv_iload_n hx hb dX2_renew_1 rfl (lv_at hl 1 rfl) ?_
  obtain ⟨w10001, ew10001, h⟩ := zbdE h
  refine zr_putI S hK hE zcl_X2 (zcS0 hgk w) 1 (Nat.le_of_ble_eq_true rfl) rfl rfl rfl qf_X2_15 dX2_renew_2 ew10001 (fun H locs hE => ?_)
  refine lv_aload_n hx hb dX2_renew_5 rfl (lv_at hl 0 rfl) ?_
  refine lv_iload_n hx hb dX2_renew_6 rfl (lv_at hl 2 rfl) ?_
  obtain ⟨w10002, ew10002, h⟩ := zbdE h
  refine zr_putI S hK hE zcl_X2 (zcS0 hgk w10001) 2 (Nat.le_of_ble_eq_true rfl) rfl rfl rfl qf_X2_19 dX2_renew_7 ew10002 (fun H locs hE => ?_)
  refine lv_aload_n hx hb dX2_renew_10 rfl (lv_at hl 0 rfl) ?_
  refine zr_getA S hK hE zcl_X2 (zcS0 hgk w10002) 0 (Nat.le_of_ble_eq_true rfl) (q := k + 1) rfl qf_X2_9 dX2_renew_11 ?_
  refine lv_iconst (v := 0) hx hb dX2_renew_14 (by decide) ?_
  obtain ⟨w10003, ew10003, h⟩ := zbdE h
  refine zr_v (zr_runS (As := [.ref (ad (k + 1)), .int 0]) S hX hE (kJ7_fill_53178 l D tc lo ad fr zq (k + 1) 0 w10002 w10003 ew10003) zyJ7_fill_53178 qm_X2_27 ⟨rfl, rfl⟩ ⟨Nat.le_of_ble_eq_true rfl, Nat.le_of_ble_eq_true rfl⟩ rfl hl.1 rfl (Nat.le_of_ble_eq_true rfl) dX2_renew_15 ⟨Nat.zero_le _, Nat.zero_le _⟩) hE (fun H locs hE => ?_)
  exact zr_vret S hE hr hlk h dX2_renew_18
set_option maxHeartbeats 4000000 in
set_option maxRecDepth 100000 in
theorem kX2_takeFrom (l : Launch) (D : va_G) (tc : Nat → ClassId) (lo : Nat) (ad : Nat → Nat) (fr : va_W) (zq : zz_Q) (k : Nat) (a1 : Nat) (w : zz_W) (w_ : zz_W) (h : fX2_takeFrom k a1 w = some w_) : zMv l yX2_takeFrom cX2_takeFrom 2 none { frames := 1, cells := 0, slots := 0, locals := 26 } D tc lo ad zshC znnC fr zq [.ref (ad k), .ref (ad a1)] w w_ := by
  refine zr_entry (by decide) (Nat.le_of_ble_eq_true rfl) fun p e s m args below meth c ls S hX hr hlk hE hl => ?_
  have S : CallFix p m c cX2_takeFrom 2 s args (Cond.code yX2_takeFrom cX2_takeFrom 2 none :: zw_tb) RX2 := S
  have hx := S.1
  have hb := S.2.1
  have hK := hX.2.1
  have hl : lv_has ls 2 [(0, .ref (ad k)), (1, .ref (ad a1))] := hl
  unfold fX2_takeFrom at h
  obtain ⟨hgk, h⟩ := zgrdE h
  obtain ⟨hga1, h⟩ := zgrdE h
  refine lv_aload_n hx hb dX2_takeFrom_0 rfl (lv_at hl 0 rfl) ?_
  refine lv_aload_n hx hb dX2_takeFrom_1 rfl (lv_at hl 1 rfl) ?_
  obtain ⟨x10001, ex10001, h⟩ := zbdE h
  refine zr_getI S hK hE zcl_X2 (zcS0 hga1 w) 1 (Nat.le_of_ble_eq_true rfl) rfl qf_X2_15 dX2_takeFrom_2 ex10001 ?_
  obtain ⟨w10002, ew10002, h⟩ := zbdE h
  refine zr_putI S hK hE zcl_X2 (zcS0 hgk w) 1 (Nat.le_of_ble_eq_true rfl) rfl rfl rfl qf_X2_15 dX2_takeFrom_5 ew10002 (fun H locs hE => ?_)
  refine lv_aload_n hx hb dX2_takeFrom_8 rfl (lv_at hl 0 rfl) ?_
  refine lv_aload_n hx hb dX2_takeFrom_9 rfl (lv_at hl 1 rfl) ?_
  obtain ⟨x10003, ex10003, h⟩ := zbdE h
  refine zr_getI S hK hE zcl_X2 (zcS0 hga1 w10002) 2 (Nat.le_of_ble_eq_true rfl) rfl qf_X2_19 dX2_takeFrom_10 ex10003 ?_
  obtain ⟨w10004, ew10004, h⟩ := zbdE h
  refine zr_putI S hK hE zcl_X2 (zcS0 hgk w10002) 2 (Nat.le_of_ble_eq_true rfl) rfl rfl rfl qf_X2_19 dX2_takeFrom_13 ew10004 (fun H locs hE => ?_)
  refine lv_aload_n hx hb dX2_takeFrom_16 rfl (lv_at hl 1 rfl) ?_
  refine zr_getA S hK hE zcl_X2 (zcS0 hga1 w10004) 0 (Nat.le_of_ble_eq_true rfl) (q := a1 + 1) rfl qf_X2_9 dX2_takeFrom_17 ?_
  refine lv_iconst (v := 0) hx hb dX2_takeFrom_20 (by decide) ?_
  refine lv_aload_n hx hb dX2_takeFrom_21 rfl (lv_at hl 0 rfl) ?_
  refine zr_getA S hK hE zcl_X2 (zcS0 hgk w10004) 0 (Nat.le_of_ble_eq_true rfl) (q := k + 1) rfl qf_X2_9 dX2_takeFrom_22 ?_
  refine lv_iconst (v := 0) hx hb dX2_takeFrom_25 (by decide) ?_
  refine lv_bipush (v := 24) hx hb dX2_takeFrom_26 (by decide) ?_
  obtain ⟨w10005, ew10005, h⟩ := zbdE h
  refine zr_cpI S hK hE zcpy qm_X2_33 hl.1 (zcS1 hga1 w10004) (zcS1 hgk w10004) ⟨Nat.le_of_ble_eq_true rfl, Nat.le_of_ble_eq_true rfl⟩ dX2_takeFrom_28 ew10005 (fun H locs hE => ?_)
  exact zr_vret S hE hr hlk h dX2_takeFrom_31
set_option maxHeartbeats 4000000 in
set_option maxRecDepth 100000 in
theorem kX4_addBytes (l : Launch) (D : va_G) (tc : Nat → ClassId) (lo : Nat) (ad : Nat → Nat) (fr : va_W) (zq : zz_Q) (a1 : Int32) (w : zz_W) (w_ : zz_W) (h : fX4_addBytes a1 w = some w_) : zMv l yX4_addBytes cX4_addBytes 3 none { frames := 0, cells := 0, slots := 0, locals := 0 } D tc lo ad zshC znnC fr zq [.ref (ad 36), .int a1] w w_ := by
  refine zr_entry (by decide) (Nat.le_of_ble_eq_true rfl) fun p e s m args below meth c ls S hX hr hlk hE hl => ?_
  have S : CallFix p m c cX4_addBytes 3 s args (Cond.code yX4_addBytes cX4_addBytes 3 none :: zw_tb) RX4 := S
  have hx := S.1
  have hb := S.2.1
  have hK := hX.2.1
  have hl : lv_has ls 3 [(0, .ref (ad 36)), (1, .int a1)] := hl
  unfold fX4_addBytes at h
  have L3 : ∀ (n : Nat) (l1 : Int32) (l2 : Int32) (w : zz_W) (ls : Array Slot) (H : Heap) (locs : List Loc), fX4_addBytes_3 a1 n l1 l2 w = some w_ → lv_has ls 3 [(0, .ref (ad 36)), (1, .int l1), (2, .int l2)] → zE D tc lo ad zshC znnC fr w s.heap H locs → W p l e { frames := 0, cells := 0, slots := 0, locals := 0 } s m args below meth c H locs 0 0 (zZv D tc lo ad zshC znnC fr below args s w_) (F0 m 3 ls []) := by
    intro n3
    induction n3 with
    | zero => intro l1 l2 w ls H locs h hl hE; rw [fX4_addBytes_3] at h; cases h
    | succ n3 ih3 =>
      intro l1 l2 w ls H locs h hl hE
      rw [fX4_addBytes_3] at h
      refine lv_iload_n hx hb dX4_addBytes_3 rfl (lv_at hl 2 rfl) ?_
      refine lv_if_lt (tgt := 48) hx hb dX4_addBytes_4 (by decide) (fun c17 => ?_) (fun c17 => ?_)
      · have h := zif c17 h
        exact zr_vret S hE hr hlk h dX4_addBytes_48
      · have h := zif' c17 h
        refine lv_aload_n hx hb dX4_addBytes_7 rfl (lv_at hl 0 rfl) ?_
        obtain ⟨x18, ex18, h⟩ := zbdE h
        refine zr_getI S hK hE zcl_X4 (zc_36 w) 0 (Nat.le_of_ble_eq_true rfl) rfl qf_X4_18 dX4_addBytes_8 ex18 ?_
        refine lv_bipush (v := 96) hx hb dX4_addBytes_11 (by decide) ?_
        refine lv_icmp_ge (tgt := 48) hx hb dX4_addBytes_13 (by decide) (fun c19 => ?_) (fun c19 => ?_)
        · have h := zif c19 h
          exact zr_vret S hE hr hlk h dX4_addBytes_48
        · have h := zif' c19 h
          refine lv_aload_n hx hb dX4_addBytes_16 rfl (lv_at hl 0 rfl) ?_
          refine zr_getA S hK hE zcl_X4 (zc_36 w) 1 (Nat.le_of_ble_eq_true rfl) (q := 37) rfl qf_X4_9 dX4_addBytes_17 ?_
          refine lv_aload_n hx hb dX4_addBytes_20 rfl (lv_at hl 0 rfl) ?_
          obtain ⟨x20, ex20, h⟩ := zbdE h
          refine zr_getI S hK hE zcl_X4 (zc_36 w) 0 (Nat.le_of_ble_eq_true rfl) rfl qf_X4_18 dX4_addBytes_21 ex20 ?_
          refine lv_iload_n hx hb dX4_addBytes_24 rfl (lv_at hl 1 rfl) ?_
          refine lv_iload_n hx hb dX4_addBytes_25 rfl (lv_at hl 2 rfl) ?_
          refine lv_iushr hx hb dX4_addBytes_26 rfl ?_
          refine lv_sipush (v := 255) hx hb dX4_addBytes_27 (by decide) ?_
          refine lv_iand hx hb dX4_addBytes_30 ?_
          obtain ⟨w21, ew21, h⟩ := zbdE h
          refine zr_iast S hK hE (zc_37 w) dX4_addBytes_31 ew21 (fun H locs hE => ?_)
          refine lv_aload_n hx hb dX4_addBytes_32 rfl (lv_at hl 0 rfl) ?_
          refine lv_dup hx hb dX4_addBytes_33 rfl ?_
          obtain ⟨x22, ex22, h⟩ := zbdE h
          refine zr_getI S hK hE zcl_X4 (zc_36 w21) 0 (Nat.le_of_ble_eq_true rfl) rfl qf_X4_18 dX4_addBytes_34 ex22 ?_
          refine lv_iconst (v := 1) hx hb dX4_addBytes_37 (by decide) ?_
          refine lv_iadd hx hb dX4_addBytes_38 ?_
          obtain ⟨w23, ew23, h⟩ := zbdE h
          refine zr_putI S hK hE zcl_X4 (zc_36 w21) 0 (Nat.le_of_ble_eq_true rfl) rfl rfl rfl qf_X4_18 dX4_addBytes_39 ew23 (fun H locs hE => ?_)
          obtain ⟨x24, ex24, h⟩ := zbdE h
          refine lv_iinc (v := x24) (lv' := [(2, .int x24), (0, .ref (ad 36)), (1, .int l1)]) hx hb dX4_addBytes_42 hl (k := 2) rfl (zinc (k := (-8)) (by decide) ex24) (by decide) rfl (fun ls hl => ?_)
          refine lv_goto (tgt := 3) hx hb dX4_addBytes_45 (by decide) ?_
          exact ih3 l1 x24 w23 ls _ _ h (lv_sub hl [1, 2, 0] rfl) hE
  refine lv_bipush (v := 24) hx hb dX4_addBytes_0 (by decide) ?_
  refine lv_istore_n (lv' := [(2, .int 24), (0, .ref (ad 36)), (1, .int a1)]) hx hb dX4_addBytes_2 rfl hl (by decide) rfl (fun ls hl => ?_)
  exact L3 zfuel a1 24 w ls _ _ h (lv_sub hl [1, 2, 0] rfl) hE
set_option maxHeartbeats 4000000 in
set_option maxRecDepth 100000 in
theorem kX4_blame (l : Launch) (D : va_G) (tc : Nat → ClassId) (lo : Nat) (ad : Nat → Nat) (fr : va_W) (zq : zz_Q) (w : zz_W) (w_ : zz_W) (h : fX4_blame w = some w_) : zMv l yX4_blame cX4_blame 1 none { frames := 0, cells := 0, slots := 0, locals := 0 } D tc lo ad zshC znnC fr zq [.ref (ad 36)] w w_ := by
  refine zr_entry (by decide) (Nat.le_of_ble_eq_true rfl) fun p e s m args below meth c ls S hX hr hlk hE hl => ?_
  have S : CallFix p m c cX4_blame 1 s args (Cond.code yX4_blame cX4_blame 1 none :: zw_tb) RX4 := S
  have hx := S.1
  have hb := S.2.1
  have hK := hX.2.1
  have hl : lv_has ls 1 [(0, .ref (ad 36))] := hl
  unfold fX4_blame at h
  refine lv_aload_n hx hb dX4_blame_0 rfl (lv_at hl 0 rfl) ?_
  obtain ⟨x10001, ex10001, h⟩ := zbdE h
  refine zr_getI S hK hE zcl_X4 (zc_36 w) 6 (Nat.le_of_ble_eq_true rfl) rfl qf_X4_28 dX4_blame_1 ex10001 ?_
  refine lv_if_ge (tgt := 15) hx hb dX4_blame_4 (by decide) (fun c10002 => ?_) (fun c10002 => ?_)
  · have h := zif c10002 h
    exact zr_vret S hE hr hlk h dX4_blame_15
  · have h := zif' c10002 h
    refine lv_aload_n hx hb dX4_blame_7 rfl (lv_at hl 0 rfl) ?_
    refine lv_aload_n hx hb dX4_blame_8 rfl (lv_at hl 0 rfl) ?_
    obtain ⟨x10003, ex10003, h⟩ := zbdE h
    refine zr_getI S hK hE zcl_X4 (zc_36 w) 3 (Nat.le_of_ble_eq_true rfl) rfl qf_X4_69 dX4_blame_9 ex10003 ?_
    obtain ⟨w10004, ew10004, h⟩ := zbdE h
    refine zr_putI S hK hE zcl_X4 (zc_36 w) 6 (Nat.le_of_ble_eq_true rfl) rfl rfl rfl qf_X4_28 dX4_blame_12 ew10004 (fun H locs hE => ?_)
    exact zr_vret S hE hr hlk h dX4_blame_15
set_option maxHeartbeats 4000000 in
set_option maxRecDepth 100000 in
theorem kX4_isWord (l : Launch) (D : va_G) (tc : Nat → ClassId) (lo : Nat) (ad : Nat → Nat) (fr : va_W) (zq : zz_Q) (w : zz_W) (r : Int32) (w_ : zz_W) (h : fX4_isWord w = some (r, w_)) : zMi l yX4_isWord cX4_isWord 1 (some .boolean) { frames := 0, cells := 0, slots := 0, locals := 0 } D tc lo ad zshC znnC fr zq [.ref (ad 36)] w r w_ := by
  refine zr_entry (by decide) (Nat.le_of_ble_eq_true rfl) fun p e s m args below meth c ls S hX hr hlk hE hl => ?_
  have S : CallFix p m c cX4_isWord 1 s args (Cond.code yX4_isWord cX4_isWord 1 (some .boolean) :: zw_tb) RX4 := S
  have hx := S.1
  have hb := S.2.1
  have hK := hX.2.1
  have hl : lv_has ls 1 [(0, .ref (ad 36))] := hl
  unfold fX4_isWord at h
  refine lv_aload_n hx hb dX4_isWord_0 rfl (lv_at hl 0 rfl) ?_
  obtain ⟨x10001, ex10001, h⟩ := zbdE h
  refine zr_getI S hK hE zcl_X4 (zc_36 w) 5 (Nat.le_of_ble_eq_true rfl) rfl qf_X4_25 dX4_isWord_1 ex10001 ?_
  refine lv_iconst (v := 1) hx hb dX4_isWord_4 (by decide) ?_
  refine lv_icmp_eq (tgt := 16) hx hb dX4_isWord_5 (by decide) (fun c10002 => ?_) (fun c10002 => ?_)
  · have h := zif c10002 h
    refine lv_iconst (v := 1) hx hb dX4_isWord_16 (by decide) ?_
    refine lv_goto (tgt := 21) hx hb dX4_isWord_17 (by decide) ?_
    exact zr_zret S hE hr hlk (by decide) h dX4_isWord_21
  · have h := zif' c10002 h
    refine lv_aload_n hx hb dX4_isWord_8 rfl (lv_at hl 0 rfl) ?_
    obtain ⟨x10003, ex10003, h⟩ := zbdE h
    refine zr_getI S hK hE zcl_X4 (zc_36 w) 5 (Nat.le_of_ble_eq_true rfl) rfl qf_X4_25 dX4_isWord_9 ex10003 ?_
    refine lv_iconst (v := 2) hx hb dX4_isWord_12 (by decide) ?_
    refine lv_icmp_ne (tgt := 20) hx hb dX4_isWord_13 (by decide) (fun c10004 => ?_) (fun c10004 => ?_)
    · have h := zif' c10004 h
      refine lv_iconst (v := 0) hx hb dX4_isWord_20 (by decide) ?_
      exact zr_zret S hE hr hlk (by decide) h dX4_isWord_21
    · have h := zif c10004 h
      refine lv_iconst (v := 1) hx hb dX4_isWord_16 (by decide) ?_
      refine lv_goto (tgt := 21) hx hb dX4_isWord_17 (by decide) ?_
      exact zr_zret S hE hr hlk (by decide) h dX4_isWord_21
set_option maxHeartbeats 4000000 in
set_option maxRecDepth 100000 in
theorem kX4_sortAt (l : Launch) (D : va_G) (tc : Nat → ClassId) (lo : Nat) (ad : Nat → Nat) (fr : va_W) (zq : zz_Q) (a1 : Int32) (w : zz_W) (r : Int32) (w_ : zz_W) (h : fX4_sortAt a1 w = some (r, w_)) : zMi l yX4_sortAt cX4_sortAt 3 (some .int) { frames := 0, cells := 0, slots := 0, locals := 0 } D tc lo ad zshC znnC fr zq [.ref (ad 36), .int a1] w r w_ := by
  refine zr_entry (by decide) (Nat.le_of_ble_eq_true rfl) fun p e s m args below meth c ls S hX hr hlk hE hl => ?_
  have S : CallFix p m c cX4_sortAt 3 s args (Cond.code yX4_sortAt cX4_sortAt 3 (some .int) :: zw_tb) RX4 := S
  have hx := S.1
  have hb := S.2.1
  have hK := hX.2.1
  have hl : lv_has ls 3 [(0, .ref (ad 36)), (1, .int a1)] := hl
  unfold fX4_sortAt at h
  have J31 : ∀ (l2 : Int32) (w : zz_W) (ls : Array Slot) (H : Heap) (locs : List Loc), fX4_sortAt_31 a1 l2 w = some (r, w_) → lv_has ls 3 [(2, .int l2)] → zE D tc lo ad zshC znnC fr w s.heap H locs → W p l e { frames := 0, cells := 0, slots := 0, locals := 0 } s m args below meth c H locs 0 0 (zZi D tc lo ad zshC znnC fr below args s r w_) (F0 m 31 ls []) := by
    intro l2 w ls H locs h hl hE
    unfold fX4_sortAt_31 at h
    refine lv_iload_n hx hb dX4_sortAt_31 rfl (lv_at hl 0 rfl) ?_
    refine lv_bipush (v := 48) hx hb dX4_sortAt_32 (by decide) ?_
    refine lv_icmp_lt (tgt := 47) hx hb dX4_sortAt_34 (by decide) (fun c15 => ?_) (fun c15 => ?_)
    · have h := zif c15 h
      refine lv_iconst (v := 3) hx hb dX4_sortAt_47 (by decide) ?_
      exact zr_iret S hE hr hlk h dX4_sortAt_48
    · have h := zif' c15 h
      refine lv_iload_n hx hb dX4_sortAt_37 rfl (lv_at hl 0 rfl) ?_
      refine lv_bipush (v := 57) hx hb dX4_sortAt_38 (by decide) ?_
      refine lv_icmp_gt (tgt := 47) hx hb dX4_sortAt_40 (by decide) (fun c16 => ?_) (fun c16 => ?_)
      · have h := zif c16 h
        refine lv_iconst (v := 3) hx hb dX4_sortAt_47 (by decide) ?_
        exact zr_iret S hE hr hlk h dX4_sortAt_48
      · have h := zif' c16 h
        refine lv_iconst (v := 2) hx hb dX4_sortAt_43 (by decide) ?_
        refine lv_goto (tgt := 48) hx hb dX4_sortAt_44 (by decide) ?_
        exact zr_iret S hE hr hlk h dX4_sortAt_48
  refine lv_iload_n hx hb dX4_sortAt_0 rfl (lv_at hl 1 rfl) ?_
  refine lv_aload_n hx hb dX4_sortAt_1 rfl (lv_at hl 0 rfl) ?_
  obtain ⟨x10001, ex10001, h⟩ := zbdE h
  refine zr_getI S hK hE zcl_X4 (zc_36 w) 0 (Nat.le_of_ble_eq_true rfl) rfl qf_X4_18 dX4_sortAt_2 ex10001 ?_
  refine lv_icmp_lt (tgt := 10) hx hb dX4_sortAt_5 (by decide) (fun c10002 => ?_) (fun c10002 => ?_)
  · have h := zif c10002 h
    refine lv_aload_n hx hb dX4_sortAt_10 rfl (lv_at hl 0 rfl) ?_
    refine zr_getA S hK hE zcl_X4 (zc_36 w) 1 (Nat.le_of_ble_eq_true rfl) (q := 37) rfl qf_X4_9 dX4_sortAt_11 ?_
    refine lv_iload_n hx hb dX4_sortAt_14 rfl (lv_at hl 1 rfl) ?_
    obtain ⟨x10003, ex10003, h⟩ := zbdE h
    refine zr_iald S hK hE (zc_37 w) dX4_sortAt_15 ex10003 ?_
    refine lv_istore_n (lv' := [(2, .int x10003), (0, .ref (ad 36)), (1, .int a1)]) hx hb dX4_sortAt_16 rfl hl (by decide) rfl (fun ls hl => ?_)
    refine lv_iload_n hx hb dX4_sortAt_17 rfl (lv_at hl 0 rfl) ?_
    refine lv_bipush (v := 97) hx hb dX4_sortAt_18 (by decide) ?_
    refine lv_icmp_lt (tgt := 31) hx hb dX4_sortAt_20 (by decide) (fun c10004 => ?_) (fun c10004 => ?_)
    · have h := zif c10004 h
      exact J31 x10003 w ls _ _ h (lv_sub hl [0] rfl) hE
    · have h := zif' c10004 h
      refine lv_iload_n hx hb dX4_sortAt_23 rfl (lv_at hl 0 rfl) ?_
      refine lv_bipush (v := 122) hx hb dX4_sortAt_24 (by decide) ?_
      refine lv_icmp_gt (tgt := 31) hx hb dX4_sortAt_26 (by decide) (fun c10005 => ?_) (fun c10005 => ?_)
      · have h := zif c10005 h
        exact J31 x10003 w ls _ _ h (lv_sub hl [0] rfl) hE
      · have h := zif' c10005 h
        refine lv_iconst (v := 1) hx hb dX4_sortAt_29 (by decide) ?_
        exact zr_iret S hE hr hlk h dX4_sortAt_30
  · have h := zif' c10002 h
    refine lv_iconst (v := 0) hx hb dX4_sortAt_8 (by decide) ?_
    exact zr_iret S hE hr hlk h dX4_sortAt_9
set_option maxHeartbeats 4000000 in
set_option maxRecDepth 100000 in
theorem kX4_advance (l : Launch) (D : va_G) (tc : Nat → ClassId) (lo : Nat) (ad : Nat → Nat) (fr : va_W) (zq : zz_Q) (w : zz_W) (w_ : zz_W) (h : fX4_advance w = some w_) : zMv l yX4_advance cX4_advance 3 none { frames := 1, cells := 0, slots := 0, locals := 22 } D tc lo ad zshC znnC fr zq [.ref (ad 36)] w w_ := by
  refine zr_entry (by decide) (Nat.le_of_ble_eq_true rfl) fun p e s m args below meth c ls S hX hr hlk hE hl => ?_
  have S : CallFix p m c cX4_advance 3 s args (Cond.code yX4_advance cX4_advance 3 none :: zw_tb) RX4 := S
  have hx := S.1
  have hb := S.2.1
  have hK := hX.2.1
  have hl : lv_has ls 3 [(0, .ref (ad 36))] := hl
  unfold fX4_advance at h
  have J131 : ∀ (l1 : Int32) (l2 : Int32) (w : zz_W) (ls : Array Slot) (H : Heap) (locs : List Loc), fX4_advance_131 l1 l2 w = some w_ → lv_has ls 3 [(0, .ref (ad 36)), (1, .int l1), (2, .int l2)] → zE D tc lo ad zshC znnC fr w s.heap H locs → W p l e { frames := 1, cells := 0, slots := 0, locals := 22 } s m args below meth c H locs 0 0 (zZv D tc lo ad zshC znnC fr below args s w_) (F0 m 131 ls []) := by
    intro l1 l2 w ls H locs h hl hE
    unfold fX4_advance_131 at h
    refine lv_iload_n hx hb dX4_advance_131 rfl (lv_at hl 1 rfl) ?_
    refine lv_if_eq (tgt := 154) hx hb dX4_advance_132 (by decide) (fun c81 => ?_) (fun c81 => ?_)
    · have h := zif c81 h
      exact zr_vret S hE hr hlk h dX4_advance_154
    · have h := zif' c81 h
      refine lv_aload_n hx hb dX4_advance_135 rfl (lv_at hl 0 rfl) ?_
      obtain ⟨x82, w83, ew83, h⟩ := zbd2E h
      refine zr_i (zr_runV (As := []) S hX hE (kX4_isWord l D tc lo ad fr zq w x82 w83 ew83) zyX4_isWord qm_X4_65 zcl_X4 rfl (zc_36 w) ⟨rfl, rfl⟩ ⟨Nat.le_of_ble_eq_true rfl, Nat.le_of_ble_eq_true rfl⟩ rfl hl.1 rfl (Nat.le_of_ble_eq_true rfl) dX4_advance_136 ⟨Nat.zero_le _, Nat.zero_le _⟩) hE (fun H locs hE => ?_)
      refine lv_if_eq (tgt := 154) hx hb dX4_advance_139 (by decide) (fun c84 => ?_) (fun c84 => ?_)
      · have h := zif c84 h
        exact zr_vret S hE hr hlk h dX4_advance_154
      · have h := zif' c84 h
        refine lv_aload_n hx hb dX4_advance_142 rfl (lv_at hl 0 rfl) ?_
        obtain ⟨x85, ex85, h⟩ := zbdE h
        refine zr_getI S hK hE zcl_X4 (zc_36 w83) 3 (Nat.le_of_ble_eq_true rfl) rfl qf_X4_69 dX4_advance_143 ex85 ?_
        refine lv_iload_n hx hb dX4_advance_146 rfl (lv_at hl 2 rfl) ?_
        refine lv_icmp_ne (tgt := 154) hx hb dX4_advance_147 (by decide) (fun c86 => ?_) (fun c86 => ?_)
        · have h := zif' c86 h
          exact zr_vret S hE hr hlk h dX4_advance_154
        · have h := zif c86 h
          refine lv_aload_n hx hb dX4_advance_150 rfl (lv_at hl 0 rfl) ?_
          obtain ⟨w87, ew87, h⟩ := zbdE h
          refine zr_v (zr_runV (As := []) S hX hE (kX4_blame l D tc lo ad fr zq w83 w87 ew87) zyX4_blame qm_X4_47 zcl_X4 rfl (zc_36 w83) ⟨rfl, rfl⟩ ⟨Nat.le_of_ble_eq_true rfl, Nat.le_of_ble_eq_true rfl⟩ rfl hl.1 rfl (Nat.le_of_ble_eq_true rfl) dX4_advance_151 ⟨Nat.zero_le _, Nat.zero_le _⟩) hE (fun H locs hE => ?_)
          exact zr_vret S hE hr hlk h dX4_advance_154
  have L85 : ∀ (n : Nat) (l1 : Int32) (l2 : Int32) (w : zz_W) (ls : Array Slot) (H : Heap) (locs : List Loc), fX4_advance_85 n l1 l2 w = some w_ → lv_has ls 3 [(0, .ref (ad 36)), (1, .int l1), (2, .int l2)] → zE D tc lo ad zshC znnC fr w s.heap H locs → W p l e { frames := 1, cells := 0, slots := 0, locals := 22 } s m args below meth c H locs 0 0 (zZv D tc lo ad zshC znnC fr below args s w_) (F0 m 85 ls []) := by
    intro n85
    induction n85 with
    | zero => intro l1 l2 w ls H locs h hl hE; rw [fX4_advance_85] at h; cases h
    | succ n85 ih85 =>
      intro l1 l2 w ls H locs h hl hE
      rw [fX4_advance_85] at h
      refine lv_aload_n hx hb dX4_advance_85 rfl (lv_at hl 0 rfl) ?_
      obtain ⟨x88, ex88, h⟩ := zbdE h
      refine zr_getI S hK hE zcl_X4 (zc_36 w) 4 (Nat.le_of_ble_eq_true rfl) rfl qf_X4_22 dX4_advance_86 ex88 ?_
      refine lv_aload_n hx hb dX4_advance_89 rfl (lv_at hl 0 rfl) ?_
      obtain ⟨x89, ex89, h⟩ := zbdE h
      refine zr_getI S hK hE zcl_X4 (zc_36 w) 0 (Nat.le_of_ble_eq_true rfl) rfl qf_X4_18 dX4_advance_90 ex89 ?_
      refine lv_icmp_ge (tgt := 131) hx hb dX4_advance_93 (by decide) (fun c90 => ?_) (fun c90 => ?_)
      · have h := zif c90 h
        exact J131 l1 l2 w ls _ _ h (lv_sub hl [0, 1, 2] rfl) hE
      · have h := zif' c90 h
        refine lv_aload_n hx hb dX4_advance_96 rfl (lv_at hl 0 rfl) ?_
        obtain ⟨x91, w92, ew92, h⟩ := zbd2E h
        refine zr_i (zr_runV (As := []) S hX hE (kX4_isWord l D tc lo ad fr zq w x91 w92 ew92) zyX4_isWord qm_X4_65 zcl_X4 rfl (zc_36 w) ⟨rfl, rfl⟩ ⟨Nat.le_of_ble_eq_true rfl, Nat.le_of_ble_eq_true rfl⟩ rfl hl.1 rfl (Nat.le_of_ble_eq_true rfl) dX4_advance_97 ⟨Nat.zero_le _, Nat.zero_le _⟩) hE (fun H locs hE => ?_)
        refine lv_if_eq (tgt := 131) hx hb dX4_advance_100 (by decide) (fun c93 => ?_) (fun c93 => ?_)
        · have h := zif c93 h
          exact J131 l1 l2 w92 ls _ _ h (lv_sub hl [0, 1, 2] rfl) hE
        · have h := zif' c93 h
          refine lv_aload_n hx hb dX4_advance_103 rfl (lv_at hl 0 rfl) ?_
          refine lv_aload_n hx hb dX4_advance_104 rfl (lv_at hl 0 rfl) ?_
          obtain ⟨x94, ex94, h⟩ := zbdE h
          refine zr_getI S hK hE zcl_X4 (zc_36 w92) 4 (Nat.le_of_ble_eq_true rfl) rfl qf_X4_22 dX4_advance_105 ex94 ?_
          obtain ⟨x95, w96, ew96, h⟩ := zbd2E h
          refine zr_i (zr_runV (As := [.int x94]) S hX hE (kX4_sortAt l D tc lo ad fr zq x94 w92 x95 w96 ew96) zyX4_sortAt qm_X4_72 zcl_X4 rfl (zc_36 w92) ⟨rfl, rfl⟩ ⟨Nat.le_of_ble_eq_true rfl, Nat.le_of_ble_eq_true rfl⟩ rfl hl.1 rfl (Nat.le_of_ble_eq_true rfl) dX4_advance_108 ⟨Nat.zero_le _, Nat.zero_le _⟩) hE (fun H locs hE => ?_)
          refine lv_aload_n hx hb dX4_advance_111 rfl (lv_at hl 0 rfl) ?_
          obtain ⟨x97, ex97, h⟩ := zbdE h
          refine zr_getI S hK hE zcl_X4 (zc_36 w96) 5 (Nat.le_of_ble_eq_true rfl) rfl qf_X4_25 dX4_advance_112 ex97 ?_
          refine lv_icmp_ne (tgt := 131) hx hb dX4_advance_115 (by decide) (fun c98 => ?_) (fun c98 => ?_)
          · have h := zif' c98 h
            exact J131 l1 l2 w96 ls _ _ h (lv_sub hl [0, 1, 2] rfl) hE
          · have h := zif c98 h
            refine lv_aload_n hx hb dX4_advance_118 rfl (lv_at hl 0 rfl) ?_
            refine lv_dup hx hb dX4_advance_119 rfl ?_
            obtain ⟨x99, ex99, h⟩ := zbdE h
            refine zr_getI S hK hE zcl_X4 (zc_36 w96) 4 (Nat.le_of_ble_eq_true rfl) rfl qf_X4_22 dX4_advance_120 ex99 ?_
            refine lv_iconst (v := 1) hx hb dX4_advance_123 (by decide) ?_
            refine lv_iadd hx hb dX4_advance_124 ?_
            obtain ⟨w100, ew100, h⟩ := zbdE h
            refine zr_putI S hK hE zcl_X4 (zc_36 w96) 4 (Nat.le_of_ble_eq_true rfl) rfl rfl rfl qf_X4_22 dX4_advance_125 ew100 (fun H locs hE => ?_)
            refine lv_goto (tgt := 85) hx hb dX4_advance_128 (by decide) ?_
            exact ih85 l1 l2 w100 ls _ _ h (lv_sub hl [0, 1, 2] rfl) hE
  have J56 : ∀ (l1 : Int32) (l2 : Int32) (w : zz_W) (ls : Array Slot) (H : Heap) (locs : List Loc), fX4_advance_56 l1 l2 w = some w_ → lv_has ls 3 [(0, .ref (ad 36)), (1, .int l1), (2, .int l2)] → zE D tc lo ad zshC znnC fr w s.heap H locs → W p l e { frames := 1, cells := 0, slots := 0, locals := 22 } s m args below meth c H locs 0 0 (zZv D tc lo ad zshC znnC fr below args s w_) (F0 m 56 ls []) := by
    intro l1 l2 w ls H locs h hl hE
    unfold fX4_advance_56 at h
    refine lv_aload_n hx hb dX4_advance_56 rfl (lv_at hl 0 rfl) ?_
    refine lv_aload_n hx hb dX4_advance_57 rfl (lv_at hl 0 rfl) ?_
    refine lv_aload_n hx hb dX4_advance_58 rfl (lv_at hl 0 rfl) ?_
    obtain ⟨x101, ex101, h⟩ := zbdE h
    refine zr_getI S hK hE zcl_X4 (zc_36 w) 3 (Nat.le_of_ble_eq_true rfl) rfl qf_X4_69 dX4_advance_59 ex101 ?_
    obtain ⟨x102, w103, ew103, h⟩ := zbd2E h
    refine zr_i (zr_runV (As := [.int x101]) S hX hE (kX4_sortAt l D tc lo ad fr zq x101 w x102 w103 ew103) zyX4_sortAt qm_X4_72 zcl_X4 rfl (zc_36 w) ⟨rfl, rfl⟩ ⟨Nat.le_of_ble_eq_true rfl, Nat.le_of_ble_eq_true rfl⟩ rfl hl.1 rfl (Nat.le_of_ble_eq_true rfl) dX4_advance_62 ⟨Nat.zero_le _, Nat.zero_le _⟩) hE (fun H locs hE => ?_)
    obtain ⟨w104, ew104, h⟩ := zbdE h
    refine zr_putI S hK hE zcl_X4 (zc_36 w103) 5 (Nat.le_of_ble_eq_true rfl) rfl rfl rfl qf_X4_25 dX4_advance_65 ew104 (fun H locs hE => ?_)
    refine lv_aload_n hx hb dX4_advance_68 rfl (lv_at hl 0 rfl) ?_
    refine lv_aload_n hx hb dX4_advance_69 rfl (lv_at hl 0 rfl) ?_
    obtain ⟨x105, ex105, h⟩ := zbdE h
    refine zr_getI S hK hE zcl_X4 (zc_36 w104) 0 (Nat.le_of_ble_eq_true rfl) rfl qf_X4_18 dX4_advance_70 ex105 ?_
    refine lv_aload_n hx hb dX4_advance_73 rfl (lv_at hl 0 rfl) ?_
    obtain ⟨x106, ex106, h⟩ := zbdE h
    refine zr_getI S hK hE zcl_X4 (zc_36 w104) 3 (Nat.le_of_ble_eq_true rfl) rfl qf_X4_69 dX4_advance_74 ex106 ?_
    refine lv_iconst (v := 1) hx hb dX4_advance_77 (by decide) ?_
    refine lv_iadd hx hb dX4_advance_78 ?_
    refine zr_mmin S zmath qm_X4_76 hl.1 ⟨Nat.le_of_ble_eq_true rfl, Nat.le_of_ble_eq_true rfl, Nat.zero_le _, Nat.zero_le _⟩ dX4_advance_79 ?_
    obtain ⟨w107, ew107, h⟩ := zbdE h
    refine zr_putI S hK hE zcl_X4 (zc_36 w104) 4 (Nat.le_of_ble_eq_true rfl) rfl rfl rfl qf_X4_22 dX4_advance_82 ew107 (fun H locs hE => ?_)
    exact L85 zfuel l1 l2 w107 ls _ _ h (lv_sub hl [0, 1, 2] rfl) hE
  have L18 : ∀ (n : Nat) (l1 : Int32) (l2 : Int32) (w : zz_W) (ls : Array Slot) (H : Heap) (locs : List Loc), fX4_advance_18 n l1 l2 w = some w_ → lv_has ls 3 [(0, .ref (ad 36)), (1, .int l1), (2, .int l2)] → zE D tc lo ad zshC znnC fr w s.heap H locs → W p l e { frames := 1, cells := 0, slots := 0, locals := 22 } s m args below meth c H locs 0 0 (zZv D tc lo ad zshC znnC fr below args s w_) (F0 m 18 ls []) := by
    intro n18
    induction n18 with
    | zero => intro l1 l2 w ls H locs h hl hE; rw [fX4_advance_18] at h; cases h
    | succ n18 ih18 =>
      intro l1 l2 w ls H locs h hl hE
      rw [fX4_advance_18] at h
      refine lv_aload_n hx hb dX4_advance_18 rfl (lv_at hl 0 rfl) ?_
      obtain ⟨x108, ex108, h⟩ := zbdE h
      refine zr_getI S hK hE zcl_X4 (zc_36 w) 3 (Nat.le_of_ble_eq_true rfl) rfl qf_X4_69 dX4_advance_19 ex108 ?_
      refine lv_aload_n hx hb dX4_advance_22 rfl (lv_at hl 0 rfl) ?_
      obtain ⟨x109, ex109, h⟩ := zbdE h
      refine zr_getI S hK hE zcl_X4 (zc_36 w) 0 (Nat.le_of_ble_eq_true rfl) rfl qf_X4_18 dX4_advance_23 ex109 ?_
      refine lv_icmp_ge (tgt := 56) hx hb dX4_advance_26 (by decide) (fun c110 => ?_) (fun c110 => ?_)
      · have h := zif c110 h
        exact J56 l1 l2 w ls _ _ h (lv_sub hl [0, 1, 2] rfl) hE
      · have h := zif' c110 h
        refine lv_aload_n hx hb dX4_advance_29 rfl (lv_at hl 0 rfl) ?_
        refine zr_getA S hK hE zcl_X4 (zc_36 w) 1 (Nat.le_of_ble_eq_true rfl) (q := 37) rfl qf_X4_9 dX4_advance_30 ?_
        refine lv_aload_n hx hb dX4_advance_33 rfl (lv_at hl 0 rfl) ?_
        obtain ⟨x111, ex111, h⟩ := zbdE h
        refine zr_getI S hK hE zcl_X4 (zc_36 w) 3 (Nat.le_of_ble_eq_true rfl) rfl qf_X4_69 dX4_advance_34 ex111 ?_
        obtain ⟨x112, ex112, h⟩ := zbdE h
        refine zr_iald S hK hE (zc_37 w) dX4_advance_37 ex112 ?_
        refine lv_bipush (v := 32) hx hb dX4_advance_38 (by decide) ?_
        refine lv_icmp_ne (tgt := 56) hx hb dX4_advance_40 (by decide) (fun c113 => ?_) (fun c113 => ?_)
        · have h := zif' c113 h
          exact J56 l1 l2 w ls _ _ h (lv_sub hl [0, 1, 2] rfl) hE
        · have h := zif c113 h
          refine lv_aload_n hx hb dX4_advance_43 rfl (lv_at hl 0 rfl) ?_
          refine lv_dup hx hb dX4_advance_44 rfl ?_
          obtain ⟨x114, ex114, h⟩ := zbdE h
          refine zr_getI S hK hE zcl_X4 (zc_36 w) 3 (Nat.le_of_ble_eq_true rfl) rfl qf_X4_69 dX4_advance_45 ex114 ?_
          refine lv_iconst (v := 1) hx hb dX4_advance_48 (by decide) ?_
          refine lv_iadd hx hb dX4_advance_49 ?_
          obtain ⟨w115, ew115, h⟩ := zbdE h
          refine zr_putI S hK hE zcl_X4 (zc_36 w) 3 (Nat.le_of_ble_eq_true rfl) rfl rfl rfl qf_X4_69 dX4_advance_50 ew115 (fun H locs hE => ?_)
          refine lv_goto (tgt := 18) hx hb dX4_advance_53 (by decide) ?_
          exact ih18 l1 l2 w115 ls _ _ h (lv_sub hl [0, 1, 2] rfl) hE
  refine lv_aload_n hx hb dX4_advance_0 rfl (lv_at hl 0 rfl) ?_
  obtain ⟨x10001, w10002, ew10002, h⟩ := zbd2E h
  refine zr_i (zr_runV (As := []) S hX hE (kX4_isWord l D tc lo ad fr zq w x10001 w10002 ew10002) zyX4_isWord qm_X4_65 zcl_X4 rfl (zc_36 w) ⟨rfl, rfl⟩ ⟨Nat.le_of_ble_eq_true rfl, Nat.le_of_ble_eq_true rfl⟩ rfl hl.1 rfl (Nat.le_of_ble_eq_true rfl) dX4_advance_1 ⟨Nat.zero_le _, Nat.zero_le _⟩) hE (fun H locs hE => ?_)
  refine lv_istore_n (lv' := [(1, .int x10001), (0, .ref (ad 36))]) hx hb dX4_advance_4 rfl hl (by decide) rfl (fun ls hl => ?_)
  refine lv_aload_n hx hb dX4_advance_5 rfl (lv_at hl 1 rfl) ?_
  obtain ⟨x10003, ex10003, h⟩ := zbdE h
  refine zr_getI S hK hE zcl_X4 (zc_36 w10002) 4 (Nat.le_of_ble_eq_true rfl) rfl qf_X4_22 dX4_advance_6 ex10003 ?_
  refine lv_istore_n (lv' := [(2, .int x10003), (1, .int x10001), (0, .ref (ad 36))]) hx hb dX4_advance_9 rfl hl (by decide) rfl (fun ls hl => ?_)
  refine lv_aload_n hx hb dX4_advance_10 rfl (lv_at hl 2 rfl) ?_
  refine lv_aload_n hx hb dX4_advance_11 rfl (lv_at hl 2 rfl) ?_
  obtain ⟨x10004, ex10004, h⟩ := zbdE h
  refine zr_getI S hK hE zcl_X4 (zc_36 w10002) 4 (Nat.le_of_ble_eq_true rfl) rfl qf_X4_22 dX4_advance_12 ex10004 ?_
  obtain ⟨w10005, ew10005, h⟩ := zbdE h
  refine zr_putI S hK hE zcl_X4 (zc_36 w10002) 3 (Nat.le_of_ble_eq_true rfl) rfl rfl rfl qf_X4_69 dX4_advance_15 ew10005 (fun H locs hE => ?_)
  exact L18 zfuel x10001 x10003 w10005 ls _ _ h (lv_sub hl [2, 1, 0] rfl) hE
set_option maxHeartbeats 4000000 in
set_option maxRecDepth 100000 in
theorem kX4_signIs (l : Launch) (D : va_G) (tc : Nat → ClassId) (lo : Nat) (ad : Nat → Nat) (fr : va_W) (zq : zz_Q) (a1 : Int32) (w : zz_W) (r : Int32) (w_ : zz_W) (h : fX4_signIs a1 w = some (r, w_)) : zMi l yX4_signIs cX4_signIs 2 (some .boolean) { frames := 0, cells := 0, slots := 0, locals := 0 } D tc lo ad zshC znnC fr zq [.ref (ad 36), .int a1] w r w_ := by
  refine zr_entry (by decide) (Nat.le_of_ble_eq_true rfl) fun p e s m args below meth c ls S hX hr hlk hE hl => ?_
  have S : CallFix p m c cX4_signIs 2 s args (Cond.code yX4_signIs cX4_signIs 2 (some .boolean) :: zw_tb) RX4 := S
  have hx := S.1
  have hb := S.2.1
  have hK := hX.2.1
  have hl : lv_has ls 2 [(0, .ref (ad 36)), (1, .int a1)] := hl
  unfold fX4_signIs at h
  refine lv_aload_n hx hb dX4_signIs_0 rfl (lv_at hl 0 rfl) ?_
  obtain ⟨x10001, ex10001, h⟩ := zbdE h
  refine zr_getI S hK hE zcl_X4 (zc_36 w) 5 (Nat.le_of_ble_eq_true rfl) rfl qf_X4_25 dX4_signIs_1 ex10001 ?_
  refine lv_iconst (v := 3) hx hb dX4_signIs_4 (by decide) ?_
  refine lv_icmp_ne (tgt := 36) hx hb dX4_signIs_5 (by decide) (fun c10002 => ?_) (fun c10002 => ?_)
  · have h := zif' c10002 h
    refine lv_iconst (v := 0) hx hb dX4_signIs_36 (by decide) ?_
    exact zr_zret S hE hr hlk (by decide) h dX4_signIs_37
  · have h := zif c10002 h
    refine lv_aload_n hx hb dX4_signIs_8 rfl (lv_at hl 0 rfl) ?_
    obtain ⟨x10003, ex10003, h⟩ := zbdE h
    refine zr_getI S hK hE zcl_X4 (zc_36 w) 3 (Nat.le_of_ble_eq_true rfl) rfl qf_X4_69 dX4_signIs_9 ex10003 ?_
    refine lv_aload_n hx hb dX4_signIs_12 rfl (lv_at hl 0 rfl) ?_
    obtain ⟨x10004, ex10004, h⟩ := zbdE h
    refine zr_getI S hK hE zcl_X4 (zc_36 w) 0 (Nat.le_of_ble_eq_true rfl) rfl qf_X4_18 dX4_signIs_13 ex10004 ?_
    refine lv_icmp_ge (tgt := 36) hx hb dX4_signIs_16 (by decide) (fun c10005 => ?_) (fun c10005 => ?_)
    · have h := zif c10005 h
      refine lv_iconst (v := 0) hx hb dX4_signIs_36 (by decide) ?_
      exact zr_zret S hE hr hlk (by decide) h dX4_signIs_37
    · have h := zif' c10005 h
      refine lv_aload_n hx hb dX4_signIs_19 rfl (lv_at hl 0 rfl) ?_
      refine zr_getA S hK hE zcl_X4 (zc_36 w) 1 (Nat.le_of_ble_eq_true rfl) (q := 37) rfl qf_X4_9 dX4_signIs_20 ?_
      refine lv_aload_n hx hb dX4_signIs_23 rfl (lv_at hl 0 rfl) ?_
      obtain ⟨x10006, ex10006, h⟩ := zbdE h
      refine zr_getI S hK hE zcl_X4 (zc_36 w) 3 (Nat.le_of_ble_eq_true rfl) rfl qf_X4_69 dX4_signIs_24 ex10006 ?_
      obtain ⟨x10007, ex10007, h⟩ := zbdE h
      refine zr_iald S hK hE (zc_37 w) dX4_signIs_27 ex10007 ?_
      refine lv_iload_n hx hb dX4_signIs_28 rfl (lv_at hl 1 rfl) ?_
      refine lv_icmp_ne (tgt := 36) hx hb dX4_signIs_29 (by decide) (fun c10008 => ?_) (fun c10008 => ?_)
      · have h := zif' c10008 h
        refine lv_iconst (v := 0) hx hb dX4_signIs_36 (by decide) ?_
        exact zr_zret S hE hr hlk (by decide) h dX4_signIs_37
      · have h := zif c10008 h
        refine lv_iconst (v := 1) hx hb dX4_signIs_32 (by decide) ?_
        refine lv_goto (tgt := 37) hx hb dX4_signIs_33 (by decide) ?_
        exact zr_zret S hE hr hlk (by decide) h dX4_signIs_37
set_option maxHeartbeats 4000000 in
set_option maxRecDepth 100000 in
theorem kX4_closeBracket (l : Launch) (D : va_G) (tc : Nat → ClassId) (lo : Nat) (ad : Nat → Nat) (fr : va_W) (zq : zz_Q) (w : zz_W) (w_ : zz_W) (h : fX4_closeBracket w = some w_) : zMv l yX4_closeBracket cX4_closeBracket 1 none { frames := 2, cells := 0, slots := 0, locals := 44 } D tc lo ad zshC znnC fr zq [.ref (ad 36)] w w_ := by
  refine zr_entry (by decide) (Nat.le_of_ble_eq_true rfl) fun p e s m args below meth c ls S hX hr hlk hE hl => ?_
  have S : CallFix p m c cX4_closeBracket 1 s args (Cond.code yX4_closeBracket cX4_closeBracket 1 none :: zw_tb) RX4 := S
  have hx := S.1
  have hb := S.2.1
  have hK := hX.2.1
  have hl : lv_has ls 1 [(0, .ref (ad 36))] := hl
  unfold fX4_closeBracket at h
  refine lv_aload_n hx hb dX4_closeBracket_0 rfl (lv_at hl 0 rfl) ?_
  refine lv_bipush (v := 41) hx hb dX4_closeBracket_1 (by decide) ?_
  obtain ⟨x10001, w10002, ew10002, h⟩ := zbd2E h
  refine zr_i (zr_runV (As := [.int 41]) S hX hE (kX4_signIs l D tc lo ad fr zq 41 w x10001 w10002 ew10002) zyX4_signIs qm_X4_112 zcl_X4 rfl (zc_36 w) ⟨rfl, rfl⟩ ⟨Nat.le_of_ble_eq_true rfl, Nat.le_of_ble_eq_true rfl⟩ rfl hl.1 rfl (Nat.le_of_ble_eq_true rfl) dX4_closeBracket_3 ⟨Nat.zero_le _, Nat.zero_le _⟩) hE (fun H locs hE => ?_)
  refine lv_if_eq (tgt := 23) hx hb dX4_closeBracket_6 (by decide) (fun c10003 => ?_) (fun c10003 => ?_)
  · have h := zif c10003 h
    refine lv_aload_n hx hb dX4_closeBracket_23 rfl (lv_at hl 0 rfl) ?_
    obtain ⟨w10004, ew10004, h⟩ := zbdE h
    refine zr_v (zr_runV (As := []) S hX hE (kX4_blame l D tc lo ad fr zq w10002 w10004 ew10004) zyX4_blame qm_X4_47 zcl_X4 rfl (zc_36 w10002) ⟨rfl, rfl⟩ ⟨Nat.le_of_ble_eq_true rfl, Nat.le_of_ble_eq_true rfl⟩ rfl hl.1 rfl (Nat.le_of_ble_eq_true rfl) dX4_closeBracket_24 ⟨Nat.zero_le _, Nat.zero_le _⟩) hE (fun H locs hE => ?_)
    exact zr_vret S hE hr hlk h dX4_closeBracket_27
  · have h := zif' c10003 h
    refine lv_aload_n hx hb dX4_closeBracket_9 rfl (lv_at hl 0 rfl) ?_
    obtain ⟨x10005, ex10005, h⟩ := zbdE h
    refine zr_getI S hK hE zcl_X4 (zc_36 w10002) 6 (Nat.le_of_ble_eq_true rfl) rfl qf_X4_28 dX4_closeBracket_10 ex10005 ?_
    refine lv_if_ge (tgt := 27) hx hb dX4_closeBracket_13 (by decide) (fun c10006 => ?_) (fun c10006 => ?_)
    · have h := zif c10006 h
      exact zr_vret S hE hr hlk h dX4_closeBracket_27
    · have h := zif' c10006 h
      refine lv_aload_n hx hb dX4_closeBracket_16 rfl (lv_at hl 0 rfl) ?_
      obtain ⟨w10007, ew10007, h⟩ := zbdE h
      refine zr_v (zr_runV (As := []) S hX hE (kX4_advance l D tc lo ad fr zq w10002 w10007 ew10007) zyX4_advance qm_X4_37 zcl_X4 rfl (zc_36 w10002) ⟨rfl, rfl⟩ ⟨Nat.le_of_ble_eq_true rfl, Nat.le_of_ble_eq_true rfl⟩ rfl hl.1 rfl (Nat.le_of_ble_eq_true rfl) dX4_closeBracket_17 ⟨Nat.zero_le _, Nat.zero_le _⟩) hE (fun H locs hE => ?_)
      refine lv_goto (tgt := 27) hx hb dX4_closeBracket_20 (by decide) ?_
      exact zr_vret S hE hr hlk h dX4_closeBracket_27
set_option maxHeartbeats 4000000 in
set_option maxRecDepth 100000 in
theorem kX4_joinsAt (l : Launch) (D : va_G) (tc : Nat → ClassId) (lo : Nat) (ad : Nat → Nat) (fr : va_W) (zq : zz_Q) (a1 : Int32) (w : zz_W) (r : Int32) (w_ : zz_W) (h : fX4_joinsAt a1 w = some (r, w_)) : zMi l yX4_joinsAt cX4_joinsAt 2 (some .boolean) { frames := 1, cells := 0, slots := 0, locals := 21 } D tc lo ad zshC znnC fr zq [.ref (ad 36), .int a1] w r w_ := by
  refine zr_entry (by decide) (Nat.le_of_ble_eq_true rfl) fun p e s m args below meth c ls S hX hr hlk hE hl => ?_
  have S : CallFix p m c cX4_joinsAt 2 s args (Cond.code yX4_joinsAt cX4_joinsAt 2 (some .boolean) :: zw_tb) RX4 := S
  have hx := S.1
  have hb := S.2.1
  have hK := hX.2.1
  have hl : lv_has ls 2 [(0, .ref (ad 36)), (1, .int a1)] := hl
  unfold fX4_joinsAt at h
  refine lv_iload_n hx hb dX4_joinsAt_0 rfl (lv_at hl 1 rfl) ?_
  by_cases c10004 : a1 = 0
  · refine lv_tableIn (off := 31) (tgt := 32) hx hb dX4_joinsAt_1 (by rw [c10004]; decide) (by rw [c10004]; decide) (by rw [c10004]; decide) (by decide) ?_
    have h := zif c10004 h
    refine lv_aload_n hx hb dX4_joinsAt_32 rfl (lv_at hl 0 rfl) ?_
    refine lv_bipush (v := 124) hx hb dX4_joinsAt_33 (by decide) ?_
    obtain ⟨x10001, w10002, ew10002, h⟩ := zbd2E h
    refine zr_i (zr_runV (As := [.int 124]) S hX hE (kX4_signIs l D tc lo ad fr zq 124 w x10001 w10002 ew10002) zyX4_signIs qm_X4_112 zcl_X4 rfl (zc_36 w) ⟨rfl, rfl⟩ ⟨Nat.le_of_ble_eq_true rfl, Nat.le_of_ble_eq_true rfl⟩ rfl hl.1 rfl (Nat.le_of_ble_eq_true rfl) dX4_joinsAt_35 ⟨Nat.zero_le _, Nat.zero_le _⟩) hE (fun H locs hE => ?_)
    obtain ⟨x10003, ex10003, h⟩ := zbdE h
    obtain ⟨ezx10003, enx10003⟩ := zboo_in ex10003
    refine zr_topi (congrArg some ezx10003) ?_
    exact zr_zret S hE hr hlk enx10003 h dX4_joinsAt_38
  have h := zif' c10004 h
  by_cases c10008 : a1 = 1
  · refine lv_tableIn (off := 38) (tgt := 39) hx hb dX4_joinsAt_1 (by rw [c10008]; decide) (by rw [c10008]; decide) (by rw [c10008]; decide) (by decide) ?_
    have h := zif c10008 h
    refine lv_aload_n hx hb dX4_joinsAt_39 rfl (lv_at hl 0 rfl) ?_
    refine lv_bipush (v := 38) hx hb dX4_joinsAt_40 (by decide) ?_
    obtain ⟨x10005, w10006, ew10006, h⟩ := zbd2E h
    refine zr_i (zr_runV (As := [.int 38]) S hX hE (kX4_signIs l D tc lo ad fr zq 38 w x10005 w10006 ew10006) zyX4_signIs qm_X4_112 zcl_X4 rfl (zc_36 w) ⟨rfl, rfl⟩ ⟨Nat.le_of_ble_eq_true rfl, Nat.le_of_ble_eq_true rfl⟩ rfl hl.1 rfl (Nat.le_of_ble_eq_true rfl) dX4_joinsAt_42 ⟨Nat.zero_le _, Nat.zero_le _⟩) hE (fun H locs hE => ?_)
    obtain ⟨x10007, ex10007, h⟩ := zbdE h
    obtain ⟨ezx10007, enx10007⟩ := zboo_in ex10007
    refine zr_topi (congrArg some ezx10007) ?_
    exact zr_zret S hE hr hlk enx10007 h dX4_joinsAt_45
  have h := zif' c10008 h
  by_cases c10018 : a1 = 2
  · refine lv_tableIn (off := 45) (tgt := 46) hx hb dX4_joinsAt_1 (by rw [c10018]; decide) (by rw [c10018]; decide) (by rw [c10018]; decide) (by decide) ?_
    have h := zif c10018 h
    refine lv_aload_n hx hb dX4_joinsAt_46 rfl (lv_at hl 0 rfl) ?_
    refine lv_bipush (v := 60) hx hb dX4_joinsAt_47 (by decide) ?_
    obtain ⟨x10009, w10010, ew10010, h⟩ := zbd2E h
    refine zr_i (zr_runV (As := [.int 60]) S hX hE (kX4_signIs l D tc lo ad fr zq 60 w x10009 w10010 ew10010) zyX4_signIs qm_X4_112 zcl_X4 rfl (zc_36 w) ⟨rfl, rfl⟩ ⟨Nat.le_of_ble_eq_true rfl, Nat.le_of_ble_eq_true rfl⟩ rfl hl.1 rfl (Nat.le_of_ble_eq_true rfl) dX4_joinsAt_49 ⟨Nat.zero_le _, Nat.zero_le _⟩) hE (fun H locs hE => ?_)
    refine lv_if_ne (tgt := 73) hx hb dX4_joinsAt_52 (by decide) (fun c10011 => ?_) (fun c10011 => ?_)
    · have h := zif' c10011 h
      refine lv_iconst (v := 1) hx hb dX4_joinsAt_73 (by decide) ?_
      refine lv_goto (tgt := 78) hx hb dX4_joinsAt_74 (by decide) ?_
      exact zr_zret S hE hr hlk (by decide) h dX4_joinsAt_78
    · have h := zif c10011 h
      refine lv_aload_n hx hb dX4_joinsAt_55 rfl (lv_at hl 0 rfl) ?_
      refine lv_bipush (v := 61) hx hb dX4_joinsAt_56 (by decide) ?_
      obtain ⟨x10012, w10013, ew10013, h⟩ := zbd2E h
      refine zr_i (zr_runV (As := [.int 61]) S hX hE (kX4_signIs l D tc lo ad fr zq 61 w10010 x10012 w10013 ew10013) zyX4_signIs qm_X4_112 zcl_X4 rfl (zc_36 w10010) ⟨rfl, rfl⟩ ⟨Nat.le_of_ble_eq_true rfl, Nat.le_of_ble_eq_true rfl⟩ rfl hl.1 rfl (Nat.le_of_ble_eq_true rfl) dX4_joinsAt_58 ⟨Nat.zero_le _, Nat.zero_le _⟩) hE (fun H locs hE => ?_)
      refine lv_if_ne (tgt := 73) hx hb dX4_joinsAt_61 (by decide) (fun c10014 => ?_) (fun c10014 => ?_)
      · have h := zif' c10014 h
        refine lv_iconst (v := 1) hx hb dX4_joinsAt_73 (by decide) ?_
        refine lv_goto (tgt := 78) hx hb dX4_joinsAt_74 (by decide) ?_
        exact zr_zret S hE hr hlk (by decide) h dX4_joinsAt_78
      · have h := zif c10014 h
        refine lv_aload_n hx hb dX4_joinsAt_64 rfl (lv_at hl 0 rfl) ?_
        refine lv_bipush (v := 62) hx hb dX4_joinsAt_65 (by decide) ?_
        obtain ⟨x10015, w10016, ew10016, h⟩ := zbd2E h
        refine zr_i (zr_runV (As := [.int 62]) S hX hE (kX4_signIs l D tc lo ad fr zq 62 w10013 x10015 w10016 ew10016) zyX4_signIs qm_X4_112 zcl_X4 rfl (zc_36 w10013) ⟨rfl, rfl⟩ ⟨Nat.le_of_ble_eq_true rfl, Nat.le_of_ble_eq_true rfl⟩ rfl hl.1 rfl (Nat.le_of_ble_eq_true rfl) dX4_joinsAt_67 ⟨Nat.zero_le _, Nat.zero_le _⟩) hE (fun H locs hE => ?_)
        refine lv_if_eq (tgt := 77) hx hb dX4_joinsAt_70 (by decide) (fun c10017 => ?_) (fun c10017 => ?_)
        · have h := zif c10017 h
          refine lv_iconst (v := 0) hx hb dX4_joinsAt_77 (by decide) ?_
          exact zr_zret S hE hr hlk (by decide) h dX4_joinsAt_78
        · have h := zif' c10017 h
          refine lv_iconst (v := 1) hx hb dX4_joinsAt_73 (by decide) ?_
          refine lv_goto (tgt := 78) hx hb dX4_joinsAt_74 (by decide) ?_
          exact zr_zret S hE hr hlk (by decide) h dX4_joinsAt_78
  have h := zif' c10018 h
  by_cases c10025 : a1 = 3
  · refine lv_tableIn (off := 78) (tgt := 79) hx hb dX4_joinsAt_1 (by rw [c10025]; decide) (by rw [c10025]; decide) (by rw [c10025]; decide) (by decide) ?_
    have h := zif c10025 h
    refine lv_aload_n hx hb dX4_joinsAt_79 rfl (lv_at hl 0 rfl) ?_
    refine lv_bipush (v := 43) hx hb dX4_joinsAt_80 (by decide) ?_
    obtain ⟨x10019, w10020, ew10020, h⟩ := zbd2E h
    refine zr_i (zr_runV (As := [.int 43]) S hX hE (kX4_signIs l D tc lo ad fr zq 43 w x10019 w10020 ew10020) zyX4_signIs qm_X4_112 zcl_X4 rfl (zc_36 w) ⟨rfl, rfl⟩ ⟨Nat.le_of_ble_eq_true rfl, Nat.le_of_ble_eq_true rfl⟩ rfl hl.1 rfl (Nat.le_of_ble_eq_true rfl) dX4_joinsAt_82 ⟨Nat.zero_le _, Nat.zero_le _⟩) hE (fun H locs hE => ?_)
    refine lv_if_ne (tgt := 97) hx hb dX4_joinsAt_85 (by decide) (fun c10021 => ?_) (fun c10021 => ?_)
    · have h := zif' c10021 h
      refine lv_iconst (v := 1) hx hb dX4_joinsAt_97 (by decide) ?_
      refine lv_goto (tgt := 102) hx hb dX4_joinsAt_98 (by decide) ?_
      exact zr_zret S hE hr hlk (by decide) h dX4_joinsAt_102
    · have h := zif c10021 h
      refine lv_aload_n hx hb dX4_joinsAt_88 rfl (lv_at hl 0 rfl) ?_
      refine lv_bipush (v := 45) hx hb dX4_joinsAt_89 (by decide) ?_
      obtain ⟨x10022, w10023, ew10023, h⟩ := zbd2E h
      refine zr_i (zr_runV (As := [.int 45]) S hX hE (kX4_signIs l D tc lo ad fr zq 45 w10020 x10022 w10023 ew10023) zyX4_signIs qm_X4_112 zcl_X4 rfl (zc_36 w10020) ⟨rfl, rfl⟩ ⟨Nat.le_of_ble_eq_true rfl, Nat.le_of_ble_eq_true rfl⟩ rfl hl.1 rfl (Nat.le_of_ble_eq_true rfl) dX4_joinsAt_91 ⟨Nat.zero_le _, Nat.zero_le _⟩) hE (fun H locs hE => ?_)
      refine lv_if_eq (tgt := 101) hx hb dX4_joinsAt_94 (by decide) (fun c10024 => ?_) (fun c10024 => ?_)
      · have h := zif c10024 h
        refine lv_iconst (v := 0) hx hb dX4_joinsAt_101 (by decide) ?_
        exact zr_zret S hE hr hlk (by decide) h dX4_joinsAt_102
      · have h := zif' c10024 h
        refine lv_iconst (v := 1) hx hb dX4_joinsAt_97 (by decide) ?_
        refine lv_goto (tgt := 102) hx hb dX4_joinsAt_98 (by decide) ?_
        exact zr_zret S hE hr hlk (by decide) h dX4_joinsAt_102
  have h := zif' c10025 h
  refine lv_tableOut (tgt := 103) hx hb dX4_joinsAt_1 (by have tc10004 := lv_neT c10004 (a := 0) (by decide); have tc10008 := lv_neT c10008 (a := 1) (by decide); have tc10018 := lv_neT c10018 (a := 2) (by decide); have tc10025 := lv_neT c10025 (a := 3) (by decide); omega) (by decide) ?_
  refine lv_aload_n hx hb dX4_joinsAt_103 rfl (lv_at hl 0 rfl) ?_
  refine lv_bipush (v := 42) hx hb dX4_joinsAt_104 (by decide) ?_
  obtain ⟨x10026, w10027, ew10027, h⟩ := zbd2E h
  refine zr_i (zr_runV (As := [.int 42]) S hX hE (kX4_signIs l D tc lo ad fr zq 42 w x10026 w10027 ew10027) zyX4_signIs qm_X4_112 zcl_X4 rfl (zc_36 w) ⟨rfl, rfl⟩ ⟨Nat.le_of_ble_eq_true rfl, Nat.le_of_ble_eq_true rfl⟩ rfl hl.1 rfl (Nat.le_of_ble_eq_true rfl) dX4_joinsAt_106 ⟨Nat.zero_le _, Nat.zero_le _⟩) hE (fun H locs hE => ?_)
  refine lv_if_ne (tgt := 121) hx hb dX4_joinsAt_109 (by decide) (fun c10028 => ?_) (fun c10028 => ?_)
  · have h := zif' c10028 h
    refine lv_iconst (v := 1) hx hb dX4_joinsAt_121 (by decide) ?_
    refine lv_goto (tgt := 126) hx hb dX4_joinsAt_122 (by decide) ?_
    exact zr_zret S hE hr hlk (by decide) h dX4_joinsAt_126
  · have h := zif c10028 h
    refine lv_aload_n hx hb dX4_joinsAt_112 rfl (lv_at hl 0 rfl) ?_
    refine lv_bipush (v := 47) hx hb dX4_joinsAt_113 (by decide) ?_
    obtain ⟨x10029, w10030, ew10030, h⟩ := zbd2E h
    refine zr_i (zr_runV (As := [.int 47]) S hX hE (kX4_signIs l D tc lo ad fr zq 47 w10027 x10029 w10030 ew10030) zyX4_signIs qm_X4_112 zcl_X4 rfl (zc_36 w10027) ⟨rfl, rfl⟩ ⟨Nat.le_of_ble_eq_true rfl, Nat.le_of_ble_eq_true rfl⟩ rfl hl.1 rfl (Nat.le_of_ble_eq_true rfl) dX4_joinsAt_115 ⟨Nat.zero_le _, Nat.zero_le _⟩) hE (fun H locs hE => ?_)
    refine lv_if_eq (tgt := 125) hx hb dX4_joinsAt_118 (by decide) (fun c10031 => ?_) (fun c10031 => ?_)
    · have h := zif c10031 h
      refine lv_iconst (v := 0) hx hb dX4_joinsAt_125 (by decide) ?_
      exact zr_zret S hE hr hlk (by decide) h dX4_joinsAt_126
    · have h := zif' c10031 h
      refine lv_iconst (v := 1) hx hb dX4_joinsAt_121 (by decide) ?_
      refine lv_goto (tgt := 126) hx hb dX4_joinsAt_122 (by decide) ?_
      exact zr_zret S hE hr hlk (by decide) h dX4_joinsAt_126
set_option maxHeartbeats 4000000 in
set_option maxRecDepth 100000 in
theorem kJ0_isLatin1_aae02 (l : Launch) (D : va_G) (tc : Nat → ClassId) (lo : Nat) (ad : Nat → Nat) (fr : va_W) (zq : zz_Q) (i : Nat) (w : zz_W) (r : Int32) (w_ : zz_W) (h : fJ0_isLatin1_aae02 i w = some (r, w_)) : zMi l yJ0_isLatin1_aae02 cJ0_isLatin1_aae02 1 (some .boolean) { frames := 0, cells := 0, slots := 0, locals := 0 } D tc lo ad zshC znnC fr zq [.ref (zq.1 i)] w r w_ := by
  refine zr_entry (by decide) (Nat.le_of_ble_eq_true rfl) fun p e s m args below meth c ls S hX hr hlk hE hl => ?_
  have S : CallFix p m c cJ0_isLatin1_aae02 1 s args (Cond.code yJ0_isLatin1_aae02 cJ0_isLatin1_aae02 1 (some .boolean) :: zw_tb) RJ0 := S
  have hx := S.1
  have hb := S.2.1
  have hK := hX.2.1
  have hl : lv_has ls 1 [(0, .ref (zq.1 i))] := hl
  unfold fJ0_isLatin1_aae02 at h
  obtain ⟨hgi, h⟩ := zgrdE h
  refine zr_sCOMP S hX hE qf_J0_38 dJ0_isLatin1_aae02_0 ?_
  refine lv_if_eq (tgt := 17) hx hb dJ0_isLatin1_aae02_3 (by decide) (fun c10001 => ?_) (fun c10001 => ?_)
  · have h := zif c10001 h
    refine lv_iconst (v := 0) hx hb dJ0_isLatin1_aae02_17 (by decide) ?_
    exact zr_zret S hE hr hlk (by decide) h dJ0_isLatin1_aae02_18
  · have h := zif' c10001 h
    refine lv_aload_n hx hb dJ0_isLatin1_aae02_6 rfl (lv_at hl 0 rfl) ?_
    refine zr_strC S hX hE (i := i) (of_decide_eq_true hgi) qf_J0_15 dJ0_isLatin1_aae02_7 ?_
    refine lv_if_ne (tgt := 17) hx hb dJ0_isLatin1_aae02_10 (by decide) (fun c10002 => ?_) (fun c10002 => ?_)
    · have h := zif' c10002 h
      refine lv_iconst (v := 0) hx hb dJ0_isLatin1_aae02_17 (by decide) ?_
      exact zr_zret S hE hr hlk (by decide) h dJ0_isLatin1_aae02_18
    · have h := zif c10002 h
      refine lv_iconst (v := 1) hx hb dJ0_isLatin1_aae02_13 (by decide) ?_
      refine lv_goto (tgt := 18) hx hb dJ0_isLatin1_aae02_14 (by decide) ?_
      exact zr_zret S hE hr hlk (by decide) h dJ0_isLatin1_aae02_18
set_option maxHeartbeats 4000000 in
set_option maxRecDepth 100000 in
theorem kJ0_coder_7d493 (l : Launch) (D : va_G) (tc : Nat → ClassId) (lo : Nat) (ad : Nat → Nat) (fr : va_W) (zq : zz_Q) (i : Nat) (w : zz_W) (r : Int32) (w_ : zz_W) (h : fJ0_coder_7d493 i w = some (r, w_)) : zMi l yJ0_coder_7d493 cJ0_coder_7d493 1 (some .byte) { frames := 0, cells := 0, slots := 0, locals := 0 } D tc lo ad zshC znnC fr zq [.ref (zq.1 i)] w r w_ := by
  refine zr_entry (by decide) (Nat.le_of_ble_eq_true rfl) fun p e s m args below meth c ls S hX hr hlk hE hl => ?_
  have S : CallFix p m c cJ0_coder_7d493 1 s args (Cond.code yJ0_coder_7d493 cJ0_coder_7d493 1 (some .byte) :: zw_tb) RJ0 := S
  have hx := S.1
  have hb := S.2.1
  have hK := hX.2.1
  have hl : lv_has ls 1 [(0, .ref (zq.1 i))] := hl
  unfold fJ0_coder_7d493 at h
  obtain ⟨hgi, h⟩ := zgrdE h
  refine zr_sCOMP S hX hE qf_J0_38 dJ0_coder_7d493_0 ?_
  refine lv_if_eq (tgt := 13) hx hb dJ0_coder_7d493_3 (by decide) (fun c10001 => ?_) (fun c10001 => ?_)
  · have h := zif c10001 h
    refine lv_iconst (v := 1) hx hb dJ0_coder_7d493_13 (by decide) ?_
    exact zr_zret S hE hr hlk (by decide) h dJ0_coder_7d493_14
  · have h := zif' c10001 h
    refine lv_aload_n hx hb dJ0_coder_7d493_6 rfl (lv_at hl 0 rfl) ?_
    refine zr_strC S hX hE (i := i) (of_decide_eq_true hgi) qf_J0_15 dJ0_coder_7d493_7 ?_
    refine lv_goto (tgt := 14) hx hb dJ0_coder_7d493_10 (by decide) ?_
    exact zr_zret S hE hr hlk (by decide) h dJ0_coder_7d493_14
set_option maxHeartbeats 4000000 in
set_option maxRecDepth 100000 in
theorem kJ0_length_8abf5 (l : Launch) (D : va_G) (tc : Nat → ClassId) (lo : Nat) (ad : Nat → Nat) (fr : va_W) (zq : zz_Q) (i : Nat) (w : zz_W) (r : Int32) (w_ : zz_W) (h : fJ0_length_8abf5 i w = some (r, w_)) : zMi l yJ0_length_8abf5 cJ0_length_8abf5 1 (some .int) { frames := 1, cells := 0, slots := 0, locals := 20 } D tc lo ad zshC znnC fr zq [.ref (zq.1 i)] w r w_ := by
  refine zr_entry (by decide) (Nat.le_of_ble_eq_true rfl) fun p e s m args below meth c ls S hX hr hlk hE hl => ?_
  have S : CallFix p m c cJ0_length_8abf5 1 s args (Cond.code yJ0_length_8abf5 cJ0_length_8abf5 1 (some .int) :: zw_tb) RJ0 := S
  have hx := S.1
  have hb := S.2.1
  have hK := hX.2.1
  have hl : lv_has ls 1 [(0, .ref (zq.1 i))] := hl
  unfold fJ0_length_8abf5 at h
  obtain ⟨hgi, h⟩ := zgrdE h
  refine lv_aload_n hx hb dJ0_length_8abf5_0 rfl (lv_at hl 0 rfl) ?_
  refine zr_strV S hX hE (i := i) (of_decide_eq_true hgi) qf_J0_9 dJ0_length_8abf5_1 ?_
  refine zr_strL S hX hE (i := i) (of_decide_eq_true hgi) dJ0_length_8abf5_4 ?_
  refine lv_aload_n hx hb dJ0_length_8abf5_5 rfl (lv_at hl 0 rfl) ?_
  obtain ⟨x10001, w10002, ew10002, h⟩ := zbd2E h
  refine zr_i (zr_runVS (As := []) S hX hE (kJ0_coder_7d493 l D tc lo ad fr zq i w x10001 w10002 ew10002) zyJ0_coder_7d493 qm_J0_335 rfl (of_decide_eq_true hgi) ⟨rfl, rfl⟩ ⟨Nat.le_of_ble_eq_true rfl, Nat.le_of_ble_eq_true rfl⟩ rfl hl.1 rfl (Nat.le_of_ble_eq_true rfl) dJ0_length_8abf5_6 ⟨Nat.zero_le _, Nat.zero_le _⟩) hE (fun H locs hE => ?_)
  refine lv_ishr hx hb dJ0_length_8abf5_9 ?_
  exact zr_iret S hE hr hlk h dJ0_length_8abf5_10
set_option maxHeartbeats 4000000 in
set_option maxRecDepth 100000 in
theorem kJ1_canEncode_9a6ad (l : Launch) (D : va_G) (tc : Nat → ClassId) (lo : Nat) (ad : Nat → Nat) (fr : va_W) (zq : zz_Q) (a1 : Int32) (w : zz_W) (r : Int32) (w_ : zz_W) (h : fJ1_canEncode_9a6ad a1 w = some (r, w_)) : zMi l yJ1_canEncode_9a6ad cJ1_canEncode_9a6ad 1 (some .boolean) { frames := 0, cells := 0, slots := 0, locals := 0 } D tc lo ad zshC znnC fr zq [.int a1] w r w_ := by
  refine zr_entry (by decide) (Nat.le_of_ble_eq_true rfl) fun p e s m args below meth c ls S hX hr hlk hE hl => ?_
  have S : CallFix p m c cJ1_canEncode_9a6ad 1 s args (Cond.code yJ1_canEncode_9a6ad cJ1_canEncode_9a6ad 1 (some .boolean) :: zw_tb) RJ1 := S
  have hx := S.1
  have hb := S.2.1
  have hK := hX.2.1
  have hl : lv_has ls 1 [(0, .int a1)] := hl
  unfold fJ1_canEncode_9a6ad at h
  refine lv_iload_n hx hb dJ1_canEncode_9a6ad_0 rfl (lv_at hl 0 rfl) ?_
  refine lv_if_lt (tgt := 15) hx hb dJ1_canEncode_9a6ad_1 (by decide) (fun c10001 => ?_) (fun c10001 => ?_)
  · have h := zif c10001 h
    refine lv_iconst (v := 0) hx hb dJ1_canEncode_9a6ad_15 (by decide) ?_
    exact zr_zret S hE hr hlk (by decide) h dJ1_canEncode_9a6ad_16
  · have h := zif' c10001 h
    refine lv_iload_n hx hb dJ1_canEncode_9a6ad_4 rfl (lv_at hl 0 rfl) ?_
    refine lv_sipush (v := 255) hx hb dJ1_canEncode_9a6ad_5 (by decide) ?_
    refine lv_icmp_gt (tgt := 15) hx hb dJ1_canEncode_9a6ad_8 (by decide) (fun c10002 => ?_) (fun c10002 => ?_)
    · have h := zif c10002 h
      refine lv_iconst (v := 0) hx hb dJ1_canEncode_9a6ad_15 (by decide) ?_
      exact zr_zret S hE hr hlk (by decide) h dJ1_canEncode_9a6ad_16
    · have h := zif' c10002 h
      refine lv_iconst (v := 1) hx hb dJ1_canEncode_9a6ad_11 (by decide) ?_
      refine lv_goto (tgt := 16) hx hb dJ1_canEncode_9a6ad_12 (by decide) ?_
      exact zr_zret S hE hr hlk (by decide) h dJ1_canEncode_9a6ad_16
set_option maxHeartbeats 4000000 in
set_option maxRecDepth 100000 in
theorem kJ1_indexOfChar_4cfef (l : Launch) (D : va_G) (tc : Nat → ClassId) (lo : Nat) (ad : Nat → Nat) (fr : va_W) (zq : zz_Q) (a1 : Nat) (a2 : Int32) (a3 : Int32) (a4 : Int32) (w : zz_W) (r : Int32) (w_ : zz_W) (h : fJ1_indexOfChar_4cfef a1 a2 a3 a4 w = some (r, w_)) : zMi l yJ1_indexOfChar_4cfef cJ1_indexOfChar_4cfef 6 (some .int) { frames := 0, cells := 0, slots := 0, locals := 0 } D tc lo ad zshC znnC fr zq [.ref (zq.2.1 a1), .int a2, .int a3, .int a4] w r w_ := by
  refine zr_entry (by decide) (Nat.le_of_ble_eq_true rfl) fun p e s m args below meth c ls S hX hr hlk hE hl => ?_
  have S : CallFix p m c cJ1_indexOfChar_4cfef 6 s args (Cond.code yJ1_indexOfChar_4cfef cJ1_indexOfChar_4cfef 6 (some .int) :: zw_tb) RJ1 := S
  have hx := S.1
  have hb := S.2.1
  have hK := hX.2.1
  have hl : lv_has ls 6 [(0, .ref (zq.2.1 a1)), (1, .int a2), (2, .int a3), (3, .int a4)] := hl
  unfold fJ1_indexOfChar_4cfef at h
  obtain ⟨hga1, h⟩ := zgrdE h
  have L7 : ∀ (n : Nat) (l3 : Int32) (l4 : Int32) (l5 : Int32) (w : zz_W) (ls : Array Slot) (H : Heap) (locs : List Loc), fJ1_indexOfChar_4cfef_7 a1 a2 a3 a4 n l3 l4 l5 w = some (r, w_) → lv_has ls 6 [(0, .ref (zq.2.1 a1)), (3, .int l3), (4, .int l4), (5, .int l5)] → zE D tc lo ad zshC znnC fr w s.heap H locs → W p l e { frames := 0, cells := 0, slots := 0, locals := 0 } s m args below meth c H locs 0 0 (zZi D tc lo ad zshC znnC fr below args s r w_) (F0 m 7 ls []) := by
    intro n7
    induction n7 with
    | zero => intro l3 l4 l5 w ls H locs h hl hE; rw [fJ1_indexOfChar_4cfef_7] at h; cases h
    | succ n7 ih7 =>
      intro l3 l4 l5 w ls H locs h hl hE
      rw [fJ1_indexOfChar_4cfef_7] at h
      refine lv_iload hx hb dJ1_indexOfChar_4cfef_7 (lv_at hl 3 rfl) ?_
      refine lv_iload_n hx hb dJ1_indexOfChar_4cfef_9 rfl (lv_at hl 1 rfl) ?_
      refine lv_icmp_ge (tgt := 31) hx hb dJ1_indexOfChar_4cfef_10 (by decide) (fun c11 => ?_) (fun c11 => ?_)
      · have h := zif c11 h
        refine lv_iconst (v := (-1)) hx hb dJ1_indexOfChar_4cfef_31 (by decide) ?_
        exact zr_iret S hE hr hlk h dJ1_indexOfChar_4cfef_32
      · have h := zif' c11 h
        refine lv_aload_n hx hb dJ1_indexOfChar_4cfef_13 rfl (lv_at hl 0 rfl) ?_
        refine lv_iload hx hb dJ1_indexOfChar_4cfef_14 (lv_at hl 3 rfl) ?_
        obtain ⟨x12, ex12, h⟩ := zbdE h
        refine zr_strB S hX hE (of_decide_eq_true hga1) dJ1_indexOfChar_4cfef_16 ex12 ?_
        refine lv_iload hx hb dJ1_indexOfChar_4cfef_17 (lv_at hl 2 rfl) ?_
        refine lv_icmp_ne (tgt := 25) hx hb dJ1_indexOfChar_4cfef_19 (by decide) (fun c13 => ?_) (fun c13 => ?_)
        · have h := zif' c13 h
          obtain ⟨x14, ex14, h⟩ := zbdE h
          refine lv_iinc (v := x14) (lv' := [(5, .int x14), (0, .ref (zq.2.1 a1)), (3, .int l3), (4, .int l4)]) hx hb dJ1_indexOfChar_4cfef_25 hl (k := 3) rfl (zinc (k := 1) (by decide) ex14) (by decide) rfl (fun ls hl => ?_)
          refine lv_goto (tgt := 7) hx hb dJ1_indexOfChar_4cfef_28 (by decide) ?_
          exact ih7 l3 l4 x14 w ls _ _ h (lv_sub hl [1, 2, 3, 0] rfl) hE
        · have h := zif c13 h
          refine lv_iload hx hb dJ1_indexOfChar_4cfef_22 (lv_at hl 3 rfl) ?_
          exact zr_iret S hE hr hlk h dJ1_indexOfChar_4cfef_24
  refine lv_iload_n hx hb dJ1_indexOfChar_4cfef_0 rfl (lv_at hl 1 rfl) ?_
  refine lv_i2b hx hb dJ1_indexOfChar_4cfef_1 rfl ?_
  obtain ⟨x10001, ex10001, h⟩ := zbdE h
  refine zr_topi ex10001 ?_
  refine lv_istore (lv' := [(4, .int x10001), (0, .ref (zq.2.1 a1)), (1, .int a2), (2, .int a3), (3, .int a4)]) hx hb dJ1_indexOfChar_4cfef_2 hl (by decide) rfl (fun ls hl => ?_)
  refine lv_iload_n hx hb dJ1_indexOfChar_4cfef_4 rfl (lv_at hl 3 rfl) ?_
  refine lv_istore (lv' := [(5, .int a3), (4, .int x10001), (0, .ref (zq.2.1 a1)), (1, .int a2), (2, .int a3), (3, .int a4)]) hx hb dJ1_indexOfChar_4cfef_5 hl (by decide) rfl (fun ls hl => ?_)
  exact L7 zfuel a4 x10001 a3 w ls _ _ h (lv_sub hl [2, 5, 1, 0] rfl) hE
set_option maxHeartbeats 4000000 in
set_option maxRecDepth 100000 in
theorem kJ1_indexOf_4cfef (l : Launch) (D : va_G) (tc : Nat → ClassId) (lo : Nat) (ad : Nat → Nat) (fr : va_W) (zq : zz_Q) (a1 : Nat) (a2 : Int32) (a3 : Int32) (a4 : Int32) (w : zz_W) (r : Int32) (w_ : zz_W) (h : fJ1_indexOf_4cfef a1 a2 a3 a4 w = some (r, w_)) : zMi l yJ1_indexOf_4cfef cJ1_indexOf_4cfef 4 (some .int) { frames := 1, cells := 0, slots := 0, locals := 25 } D tc lo ad zshC znnC fr zq [.ref (zq.2.1 a1), .int a2, .int a3, .int a4] w r w_ := by
  refine zr_entry (by decide) (Nat.le_of_ble_eq_true rfl) fun p e s m args below meth c ls S hX hr hlk hE hl => ?_
  have S : CallFix p m c cJ1_indexOf_4cfef 4 s args (Cond.code yJ1_indexOf_4cfef cJ1_indexOf_4cfef 4 (some .int) :: zw_tb) RJ1 := S
  have hx := S.1
  have hb := S.2.1
  have hK := hX.2.1
  have hl : lv_has ls 4 [(0, .ref (zq.2.1 a1)), (1, .int a2), (2, .int a3), (3, .int a4)] := hl
  unfold fJ1_indexOf_4cfef at h
  obtain ⟨hga1, h⟩ := zgrdE h
  refine lv_iload_n hx hb dJ1_indexOf_4cfef_0 rfl (lv_at hl 1 rfl) ?_
  obtain ⟨x10001, w10002, ew10002, h⟩ := zbd2E h
  refine zr_i (zr_runS (As := [.int a2]) S hX hE (kJ1_canEncode_9a6ad l D tc lo ad fr zq a2 w x10001 w10002 ew10002) zyJ1_canEncode_9a6ad qm_J1_88 ⟨rfl, rfl⟩ ⟨Nat.le_of_ble_eq_true rfl, Nat.le_of_ble_eq_true rfl⟩ rfl hl.1 rfl (Nat.le_of_ble_eq_true rfl) dJ1_indexOf_4cfef_1 ⟨Nat.zero_le _, Nat.zero_le _⟩) hE (fun H locs hE => ?_)
  refine lv_if_ne (tgt := 9) hx hb dJ1_indexOf_4cfef_4 (by decide) (fun c10003 => ?_) (fun c10003 => ?_)
  · have h := zif' c10003 h
    refine lv_iload_n hx hb dJ1_indexOf_4cfef_9 rfl (lv_at hl 2 rfl) ?_
    refine lv_iconst (v := 0) hx hb dJ1_indexOf_4cfef_10 (by decide) ?_
    refine zr_mmax S zmath qm_J1_92 hl.1 ⟨Nat.le_of_ble_eq_true rfl, Nat.le_of_ble_eq_true rfl, Nat.zero_le _, Nat.zero_le _⟩ dJ1_indexOf_4cfef_11 ?_
    obtain ⟨x10004, ex10004, h⟩ := zbdE h
    refine zr_topi ex10004 ?_
    refine lv_istore_n (lv' := [(2, .int x10004), (0, .ref (zq.2.1 a1)), (1, .int a2), (3, .int a4)]) hx hb dJ1_indexOf_4cfef_14 rfl hl (by decide) rfl (fun ls hl => ?_)
    refine lv_iload_n hx hb dJ1_indexOf_4cfef_15 rfl (lv_at hl 3 rfl) ?_
    refine lv_aload_n hx hb dJ1_indexOf_4cfef_16 rfl (lv_at hl 1 rfl) ?_
    refine zr_strL S hX hE (i := a1) (of_decide_eq_true hga1) dJ1_indexOf_4cfef_17 ?_
    refine zr_mmin S zmath qm_J1_38 hl.1 ⟨Nat.le_of_ble_eq_true rfl, Nat.le_of_ble_eq_true rfl, Nat.zero_le _, Nat.zero_le _⟩ dJ1_indexOf_4cfef_18 ?_
    obtain ⟨x10005, ex10005, h⟩ := zbdE h
    refine zr_topi ex10005 ?_
    refine lv_istore_n (lv' := [(3, .int x10005), (2, .int x10004), (0, .ref (zq.2.1 a1)), (1, .int a2)]) hx hb dJ1_indexOf_4cfef_21 rfl hl (by decide) rfl (fun ls hl => ?_)
    refine lv_iload_n hx hb dJ1_indexOf_4cfef_22 rfl (lv_at hl 1 rfl) ?_
    refine lv_iload_n hx hb dJ1_indexOf_4cfef_23 rfl (lv_at hl 0 rfl) ?_
    refine lv_icmp_lt (tgt := 29) hx hb dJ1_indexOf_4cfef_24 (by decide) (fun c10006 => ?_) (fun c10006 => ?_)
    · have h := zif c10006 h
      refine lv_aload_n hx hb dJ1_indexOf_4cfef_29 rfl (lv_at hl 2 rfl) ?_
      refine lv_iload_n hx hb dJ1_indexOf_4cfef_30 rfl (lv_at hl 3 rfl) ?_
      refine lv_iload_n hx hb dJ1_indexOf_4cfef_31 rfl (lv_at hl 1 rfl) ?_
      refine lv_iload_n hx hb dJ1_indexOf_4cfef_32 rfl (lv_at hl 0 rfl) ?_
      obtain ⟨x10007, w10008, ew10008, h⟩ := zbd2E h
      refine zr_i (zr_runS (As := [.ref (zq.2.1 a1), .int a2, .int x10004, .int x10005]) S hX hE (kJ1_indexOfChar_4cfef l D tc lo ad fr zq a1 a2 x10004 x10005 w10002 x10007 w10008 ew10008) zyJ1_indexOfChar_4cfef qm_J1_95 ⟨rfl, rfl⟩ ⟨Nat.le_of_ble_eq_true rfl, Nat.le_of_ble_eq_true rfl⟩ rfl hl.1 rfl (Nat.le_of_ble_eq_true rfl) dJ1_indexOf_4cfef_33 ⟨Nat.zero_le _, Nat.zero_le _⟩) hE (fun H locs hE => ?_)
      exact zr_iret S hE hr hlk h dJ1_indexOf_4cfef_36
    · have h := zif' c10006 h
      refine lv_iconst (v := (-1)) hx hb dJ1_indexOf_4cfef_27 (by decide) ?_
      exact zr_iret S hE hr hlk h dJ1_indexOf_4cfef_28
  · have h := zif c10003 h
    refine lv_iconst (v := (-1)) hx hb dJ1_indexOf_4cfef_7 (by decide) ?_
    exact zr_iret S hE hr hlk h dJ1_indexOf_4cfef_8
set_option maxHeartbeats 4000000 in
set_option maxRecDepth 100000 in
theorem kJ0_indexOf_7cf53 (l : Launch) (D : va_G) (tc : Nat → ClassId) (lo : Nat) (ad : Nat → Nat) (fr : va_W) (zq : zz_Q) (i : Nat) (a1 : Int32) (a2 : Int32) (w : zz_W) (r : Int32) (w_ : zz_W) (h : fJ0_indexOf_7cf53 i a1 a2 w = some (r, w_)) : zMi l yJ0_indexOf_7cf53 cJ0_indexOf_7cf53 3 (some .int) { frames := 2, cells := 0, slots := 0, locals := 48 } D tc lo ad zshC znnC fr zq [.ref (zq.1 i), .int a1, .int a2] w r w_ := by
  refine zr_entry (by decide) (Nat.le_of_ble_eq_true rfl) fun p e s m args below meth c ls S hX hr hlk hE hl => ?_
  have S : CallFix p m c cJ0_indexOf_7cf53 3 s args (Cond.code yJ0_indexOf_7cf53 cJ0_indexOf_7cf53 3 (some .int) :: zw_tb) RJ0 := S
  have hx := S.1
  have hb := S.2.1
  have hK := hX.2.1
  have hl : lv_has ls 3 [(0, .ref (zq.1 i)), (1, .int a1), (2, .int a2)] := hl
  unfold fJ0_indexOf_7cf53 at h
  obtain ⟨hgi, h⟩ := zgrdE h
  refine lv_aload_n hx hb dJ0_indexOf_7cf53_0 rfl (lv_at hl 0 rfl) ?_
  obtain ⟨x10001, w10002, ew10002, h⟩ := zbd2E h
  refine zr_i (zr_runVS (As := []) S hX hE (kJ0_isLatin1_aae02 l D tc lo ad fr zq i w x10001 w10002 ew10002) zyJ0_isLatin1_aae02 qm_J0_492 rfl (of_decide_eq_true hgi) ⟨rfl, rfl⟩ ⟨Nat.le_of_ble_eq_true rfl, Nat.le_of_ble_eq_true rfl⟩ rfl hl.1 rfl (Nat.le_of_ble_eq_true rfl) dJ0_indexOf_7cf53_1 ⟨Nat.zero_le _, Nat.zero_le _⟩) hE (fun H locs hE => ?_)
  refine lv_if_eq (tgt := 23) hx hb dJ0_indexOf_7cf53_4 (by decide) (fun c10003 => ?_) (fun c10003 => ?_)
  · have h := zif c10003 h
    refine lv_aload_n hx hb dJ0_indexOf_7cf53_23 rfl (lv_at hl 0 rfl) ?_
    refine zr_strV S hX hE (i := i) (of_decide_eq_true hgi) qf_J0_9 dJ0_indexOf_7cf53_24 ?_
    refine lv_iload_n hx hb dJ0_indexOf_7cf53_27 rfl (lv_at hl 1 rfl) ?_
    refine lv_iload_n hx hb dJ0_indexOf_7cf53_28 rfl (lv_at hl 2 rfl) ?_
    refine lv_aload_n hx hb dJ0_indexOf_7cf53_29 rfl (lv_at hl 0 rfl) ?_
    obtain ⟨x10004, w10005, ew10005, h⟩ := zbd2E h
    refine zr_i (zr_runVS (As := []) S hX hE (kJ0_length_8abf5 l D tc lo ad fr zq i w10002 x10004 w10005 ew10005) zyJ0_length_8abf5 qm_J0_505 rfl (of_decide_eq_true hgi) ⟨rfl, rfl⟩ ⟨Nat.le_of_ble_eq_true rfl, Nat.le_of_ble_eq_true rfl⟩ rfl hl.1 rfl (Nat.le_of_ble_eq_true rfl) dJ0_indexOf_7cf53_30 ⟨Nat.zero_le _, Nat.zero_le _⟩) hE (fun H locs hE => ?_)
    cases h
  · have h := zif' c10003 h
    refine lv_aload_n hx hb dJ0_indexOf_7cf53_7 rfl (lv_at hl 0 rfl) ?_
    refine zr_strV S hX hE (i := i) (of_decide_eq_true hgi) qf_J0_9 dJ0_indexOf_7cf53_8 ?_
    refine lv_iload_n hx hb dJ0_indexOf_7cf53_11 rfl (lv_at hl 1 rfl) ?_
    refine lv_iload_n hx hb dJ0_indexOf_7cf53_12 rfl (lv_at hl 2 rfl) ?_
    refine lv_aload_n hx hb dJ0_indexOf_7cf53_13 rfl (lv_at hl 0 rfl) ?_
    obtain ⟨x10006, w10007, ew10007, h⟩ := zbd2E h
    refine zr_i (zr_runVS (As := []) S hX hE (kJ0_length_8abf5 l D tc lo ad fr zq i w10002 x10006 w10007 ew10007) zyJ0_length_8abf5 qm_J0_505 rfl (of_decide_eq_true hgi) ⟨rfl, rfl⟩ ⟨Nat.le_of_ble_eq_true rfl, Nat.le_of_ble_eq_true rfl⟩ rfl hl.1 rfl (Nat.le_of_ble_eq_true rfl) dJ0_indexOf_7cf53_14 ⟨Nat.zero_le _, Nat.zero_le _⟩) hE (fun H locs hE => ?_)
    obtain ⟨x10008, w10009, ew10009, h⟩ := zbd2E h
    refine zr_i (zr_runS (As := [.ref (zq.2.1 i), .int a1, .int a2, .int x10006]) S hX hE (kJ1_indexOf_4cfef l D tc lo ad fr zq i a1 a2 x10006 w10007 x10008 w10009 ew10009) zyJ1_indexOf_4cfef qm_J0_637 ⟨rfl, rfl⟩ ⟨Nat.le_of_ble_eq_true rfl, Nat.le_of_ble_eq_true rfl⟩ rfl hl.1 rfl (Nat.le_of_ble_eq_true rfl) dJ0_indexOf_7cf53_17 ⟨Nat.zero_le _, Nat.zero_le _⟩) hE (fun H locs hE => ?_)
    refine lv_goto (tgt := 36) hx hb dJ0_indexOf_7cf53_20 (by decide) ?_
    exact zr_iret S hE hr hlk h dJ0_indexOf_7cf53_36
set_option maxHeartbeats 4000000 in
set_option maxRecDepth 100000 in
theorem kJ0_indexOf_0f7a4 (l : Launch) (D : va_G) (tc : Nat → ClassId) (lo : Nat) (ad : Nat → Nat) (fr : va_W) (zq : zz_Q) (i : Nat) (a1 : Int32) (w : zz_W) (r : Int32) (w_ : zz_W) (h : fJ0_indexOf_0f7a4 i a1 w = some (r, w_)) : zMi l yJ0_indexOf_0f7a4 cJ0_indexOf_0f7a4 2 (some .int) { frames := 3, cells := 0, slots := 0, locals := 70 } D tc lo ad zshC znnC fr zq [.ref (zq.1 i), .int a1] w r w_ := by
  refine zr_entry (by decide) (Nat.le_of_ble_eq_true rfl) fun p e s m args below meth c ls S hX hr hlk hE hl => ?_
  have S : CallFix p m c cJ0_indexOf_0f7a4 2 s args (Cond.code yJ0_indexOf_0f7a4 cJ0_indexOf_0f7a4 2 (some .int) :: zw_tb) RJ0 := S
  have hx := S.1
  have hb := S.2.1
  have hK := hX.2.1
  have hl : lv_has ls 2 [(0, .ref (zq.1 i)), (1, .int a1)] := hl
  unfold fJ0_indexOf_0f7a4 at h
  obtain ⟨hgi, h⟩ := zgrdE h
  refine lv_aload_n hx hb dJ0_indexOf_0f7a4_0 rfl (lv_at hl 0 rfl) ?_
  refine lv_iload_n hx hb dJ0_indexOf_0f7a4_1 rfl (lv_at hl 1 rfl) ?_
  refine lv_iconst (v := 0) hx hb dJ0_indexOf_0f7a4_2 (by decide) ?_
  obtain ⟨x10001, w10002, ew10002, h⟩ := zbd2E h
  refine zr_i (zr_runVS (As := [.int a1, .int 0]) S hX hE (kJ0_indexOf_7cf53 l D tc lo ad fr zq i a1 0 w x10001 w10002 ew10002) zyJ0_indexOf_7cf53 qm_J0_633 rfl (of_decide_eq_true hgi) ⟨rfl, rfl⟩ ⟨Nat.le_of_ble_eq_true rfl, Nat.le_of_ble_eq_true rfl⟩ rfl hl.1 rfl (Nat.le_of_ble_eq_true rfl) dJ0_indexOf_0f7a4_3 ⟨Nat.zero_le _, Nat.zero_le _⟩) hE (fun H locs hE => ?_)
  exact zr_iret S hE hr hlk h dJ0_indexOf_0f7a4_6
set_option maxHeartbeats 4000000 in
set_option maxRecDepth 100000 in
theorem kX4_names (l : Launch) (D : va_G) (tc : Nat → ClassId) (lo : Nat) (ad : Nat → Nat) (fr : va_W) (zq : zz_Q) (w : zz_W) (r : Nat) (w_ : zz_W) (h : fX4_names w = some (r, w_)) : zMs l yX4_names cX4_names 1 (some (FieldType.object "java/lang/String")) { frames := 0, cells := 0, slots := 0, locals := 0 } D tc lo ad zshC znnC fr zq [.ref (ad 36)] w r w_ := by
  refine zr_entry (by decide) (Nat.le_of_ble_eq_true rfl) fun p e s m args below meth c ls S hX hr hlk hE hl => ?_
  have S : CallFix p m c cX4_names 1 s args (Cond.code yX4_names cX4_names 1 (some (FieldType.object "java/lang/String")) :: zw_tb) RX4 := S
  have hx := S.1
  have hb := S.2.1
  have hK := hX.2.1
  have hl : lv_has ls 1 [(0, .ref (ad 36))] := hl
  unfold fX4_names at h
  refine lv_aload_n hx hb dX4_names_0 rfl (lv_at hl 0 rfl) ?_
  obtain ⟨x10001, ex10001, h⟩ := zbdE h
  refine zr_getI S hK hE zcl_X4 (zc_36 w) 7 (Nat.le_of_ble_eq_true rfl) rfl qf_X4_44 dX4_names_1 ex10001 ?_
  refine lv_if_ne (tgt := 10) hx hb dX4_names_4 (by decide) (fun c10002 => ?_) (fun c10002 => ?_)
  · have h := zif' c10002 h
    refine lv_aload_n hx hb dX4_names_10 rfl (lv_at hl 0 rfl) ?_
    obtain ⟨x10003, ex10003, h⟩ := zbdE h
    refine zr_getI S hK hE zcl_X4 (zc_36 w) 7 (Nat.le_of_ble_eq_true rfl) rfl qf_X4_44 dX4_names_11 ex10003 ?_
    refine lv_iconst (v := 1) hx hb dX4_names_14 (by decide) ?_
    refine lv_icmp_ne (tgt := 23) hx hb dX4_names_15 (by decide) (fun c10004 => ?_) (fun c10004 => ?_)
    · have h := zif' c10004 h
      refine zr_ldcS S hX (i := 5) (by decide) dX4_names_23 ?_
      exact zr_sret S hE hr hlk h dX4_names_25
    · have h := zif c10004 h
      refine zr_ldcS S hX (i := 4) (by decide) dX4_names_18 ?_
      refine lv_goto (tgt := 25) hx hb dX4_names_20 (by decide) ?_
      exact zr_sret S hE hr hlk h dX4_names_25
  · have h := zif c10002 h
    refine zr_ldcS S hX (i := 3) (by decide) dX4_names_7 ?_
    exact zr_sret S hE hr hlk h dX4_names_9
set_option maxHeartbeats 4000000 in
set_option maxRecDepth 100000 in
theorem kX4_write (l : Launch) (D : va_G) (tc : Nat → ClassId) (lo : Nat) (ad : Nat → Nat) (fr : va_W) (zq : zz_Q) (a1 : Int32) (w : zz_W) (w_ : zz_W) (h : fX4_write a1 w = some w_) : zMv l yX4_write cX4_write 2 none { frames := 0, cells := 0, slots := 0, locals := 0 } D tc lo ad zshC znnC fr zq [.ref (ad 36), .int a1] w w_ := by
  refine zr_entry (by decide) (Nat.le_of_ble_eq_true rfl) fun p e s m args below meth c ls S hX hr hlk hE hl => ?_
  have S : CallFix p m c cX4_write 2 s args (Cond.code yX4_write cX4_write 2 none :: zw_tb) RX4 := S
  have hx := S.1
  have hb := S.2.1
  have hK := hX.2.1
  have hl : lv_has ls 2 [(0, .ref (ad 36)), (1, .int a1)] := hl
  unfold fX4_write at h
  refine lv_aload_n hx hb dX4_write_0 rfl (lv_at hl 0 rfl) ?_
  obtain ⟨x10001, ex10001, h⟩ := zbdE h
  refine zr_getI S hK hE zcl_X4 (zc_36 w) 8 (Nat.le_of_ble_eq_true rfl) rfl qf_X4_31 dX4_write_1 ex10001 ?_
  refine lv_aload_n hx hb dX4_write_4 rfl (lv_at hl 0 rfl) ?_
  refine zr_getA S hK hE zcl_X4 (zc_36 w) 2 (Nat.le_of_ble_eq_true rfl) (q := 38) rfl qf_X4_15 dX4_write_5 ?_
  refine zr_alen S hK hE (zc_38 w) rfl dX4_write_8 ?_
  refine lv_icmp_ge (tgt := 32) hx hb dX4_write_9 (by decide) (fun c10002 => ?_) (fun c10002 => ?_)
  · have h := zif c10002 h
    exact zr_vret S hE hr hlk h dX4_write_32
  · have h := zif' c10002 h
    refine lv_aload_n hx hb dX4_write_12 rfl (lv_at hl 0 rfl) ?_
    refine zr_getA S hK hE zcl_X4 (zc_36 w) 2 (Nat.le_of_ble_eq_true rfl) (q := 38) rfl qf_X4_15 dX4_write_13 ?_
    refine lv_aload_n hx hb dX4_write_16 rfl (lv_at hl 0 rfl) ?_
    obtain ⟨x10003, ex10003, h⟩ := zbdE h
    refine zr_getI S hK hE zcl_X4 (zc_36 w) 8 (Nat.le_of_ble_eq_true rfl) rfl qf_X4_31 dX4_write_17 ex10003 ?_
    refine lv_iload_n hx hb dX4_write_20 rfl (lv_at hl 1 rfl) ?_
    obtain ⟨w10004, ew10004, h⟩ := zbdE h
    refine zr_iast S hK hE (zc_38 w) dX4_write_21 ew10004 (fun H locs hE => ?_)
    refine lv_aload_n hx hb dX4_write_22 rfl (lv_at hl 0 rfl) ?_
    refine lv_dup hx hb dX4_write_23 rfl ?_
    obtain ⟨x10005, ex10005, h⟩ := zbdE h
    refine zr_getI S hK hE zcl_X4 (zc_36 w10004) 8 (Nat.le_of_ble_eq_true rfl) rfl qf_X4_31 dX4_write_24 ex10005 ?_
    refine lv_iconst (v := 1) hx hb dX4_write_27 (by decide) ?_
    refine lv_iadd hx hb dX4_write_28 ?_
    obtain ⟨w10006, ew10006, h⟩ := zbdE h
    refine zr_putI S hK hE zcl_X4 (zc_36 w10004) 8 (Nat.le_of_ble_eq_true rfl) rfl rfl rfl qf_X4_31 dX4_write_29 ew10006 (fun H locs hE => ?_)
    exact zr_vret S hE hr hlk h dX4_write_32
set_option maxHeartbeats 4000000 in
set_option maxRecDepth 100000 in
theorem kX4_writeAtom (l : Launch) (D : va_G) (tc : Nat → ClassId) (lo : Nat) (ad : Nat → Nat) (fr : va_W) (zq : zz_Q) (a1 : Int32) (w : zz_W) (w_ : zz_W) (h : fX4_writeAtom a1 w = some w_) : zMv l yX4_writeAtom cX4_writeAtom 2 none { frames := 2, cells := 0, slots := 0, locals := 44 } D tc lo ad zshC znnC fr zq [.ref (ad 36), .int a1] w w_ := by
  refine zr_entry (by decide) (Nat.le_of_ble_eq_true rfl) fun p e s m args below meth c ls S hX hr hlk hE hl => ?_
  have S : CallFix p m c cX4_writeAtom 2 s args (Cond.code yX4_writeAtom cX4_writeAtom 2 none :: zw_tb) RX4 := S
  have hx := S.1
  have hb := S.2.1
  have hK := hX.2.1
  have hl : lv_has ls 2 [(0, .ref (ad 36)), (1, .int a1)] := hl
  unfold fX4_writeAtom at h
  refine lv_aload_n hx hb dX4_writeAtom_0 rfl (lv_at hl 0 rfl) ?_
  refine lv_dup hx hb dX4_writeAtom_1 rfl ?_
  obtain ⟨x10001, ex10001, h⟩ := zbdE h
  refine zr_getI S hK hE zcl_X4 (zc_36 w) 9 (Nat.le_of_ble_eq_true rfl) rfl qf_X4_34 dX4_writeAtom_2 ex10001 ?_
  refine lv_iconst (v := 1) hx hb dX4_writeAtom_5 (by decide) ?_
  refine lv_iadd hx hb dX4_writeAtom_6 ?_
  obtain ⟨w10002, ew10002, h⟩ := zbdE h
  refine zr_putI S hK hE zcl_X4 (zc_36 w) 9 (Nat.le_of_ble_eq_true rfl) rfl rfl rfl qf_X4_34 dX4_writeAtom_7 ew10002 (fun H locs hE => ?_)
  refine lv_aload_n hx hb dX4_writeAtom_10 rfl (lv_at hl 0 rfl) ?_
  refine lv_iload_n hx hb dX4_writeAtom_11 rfl (lv_at hl 1 rfl) ?_
  obtain ⟨w10003, ew10003, h⟩ := zbdE h
  refine zr_v (zr_runV (As := [.int a1]) S hX hE (kX4_write l D tc lo ad fr zq a1 w10002 w10003 ew10003) zyX4_write qm_X4_108 zcl_X4 rfl (zc_36 w10002) ⟨rfl, rfl⟩ ⟨Nat.le_of_ble_eq_true rfl, Nat.le_of_ble_eq_true rfl⟩ rfl hl.1 rfl (Nat.le_of_ble_eq_true rfl) dX4_writeAtom_12 ⟨Nat.zero_le _, Nat.zero_le _⟩) hE (fun H locs hE => ?_)
  refine lv_aload_n hx hb dX4_writeAtom_15 rfl (lv_at hl 0 rfl) ?_
  obtain ⟨w10004, ew10004, h⟩ := zbdE h
  refine zr_v (zr_runV (As := []) S hX hE (kX4_advance l D tc lo ad fr zq w10003 w10004 ew10004) zyX4_advance qm_X4_37 zcl_X4 rfl (zc_36 w10003) ⟨rfl, rfl⟩ ⟨Nat.le_of_ble_eq_true rfl, Nat.le_of_ble_eq_true rfl⟩ rfl hl.1 rfl (Nat.le_of_ble_eq_true rfl) dX4_writeAtom_16 ⟨Nat.zero_le _, Nat.zero_le _⟩) hE (fun H locs hE => ?_)
  exact zr_vret S hE hr hlk h dX4_writeAtom_19
set_option maxHeartbeats 4000000 in
set_option maxRecDepth 100000 in
theorem kX4_readName (l : Launch) (D : va_G) (tc : Nat → ClassId) (lo : Nat) (ad : Nat → Nat) (fr : va_W) (zq : zz_Q) (w : zz_W) (w_ : zz_W) (h : fX4_readName w = some w_) : zMv l yX4_readName cX4_readName 2 none { frames := 4, cells := 0, slots := 0, locals := 91 } D tc lo ad zshC znnC fr zq [.ref (ad 36)] w w_ := by
  refine zr_entry (by decide) (Nat.le_of_ble_eq_true rfl) fun p e s m args below meth c ls S hX hr hlk hE hl => ?_
  have S : CallFix p m c cX4_readName 2 s args (Cond.code yX4_readName cX4_readName 2 none :: zw_tb) RX4 := S
  have hx := S.1
  have hb := S.2.1
  have hK := hX.2.1
  have hl : lv_has ls 2 [(0, .ref (ad 36))] := hl
  unfold fX4_readName at h
  have J34 : ∀ (s0 : Int32) (w : zz_W) (ls : Array Slot) (H : Heap) (locs : List Loc), fX4_readName_34 s0 w = some w_ → lv_has ls 2 [(0, .ref (ad 36))] → zE D tc lo ad zshC znnC fr w s.heap H locs → W p l e { frames := 4, cells := 0, slots := 0, locals := 91 } s m args below meth c H locs 0 0 (zZv D tc lo ad zshC znnC fr below args s w_) (F0 m 34 ls [.int s0]) := by
    intro s0 w ls H locs h hl hE
    unfold fX4_readName_34 at h
    refine lv_istore_n (lv' := [(1, .int s0), (0, .ref (ad 36))]) hx hb dX4_readName_34 rfl hl (by decide) rfl (fun ls hl => ?_)
    refine lv_iload_n hx hb dX4_readName_35 rfl (lv_at hl 0 rfl) ?_
    refine lv_if_ge (tgt := 44) hx hb dX4_readName_36 (by decide) (fun c27 => ?_) (fun c27 => ?_)
    · have h := zif c27 h
      refine lv_aload_n hx hb dX4_readName_44 rfl (lv_at hl 1 rfl) ?_
      refine lv_bipush (v := (-3)) hx hb dX4_readName_45 (by decide) ?_
      refine lv_iload_n hx hb dX4_readName_47 rfl (lv_at hl 0 rfl) ?_
      refine lv_iadd hx hb dX4_readName_48 ?_
      obtain ⟨w28, ew28, h⟩ := zbdE h
      refine zr_v (zr_runV (As := [.int ((-3) + s0)]) S hX hE (kX4_writeAtom l D tc lo ad fr zq ((-3) + s0) w w28 ew28) zyX4_writeAtom qm_X4_125 zcl_X4 rfl (zc_36 w) ⟨rfl, rfl⟩ ⟨Nat.le_of_ble_eq_true rfl, Nat.le_of_ble_eq_true rfl⟩ rfl hl.1 rfl (Nat.le_of_ble_eq_true rfl) dX4_readName_49 ⟨Nat.zero_le _, Nat.zero_le _⟩) hE (fun H locs hE => ?_)
      exact zr_vret S hE hr hlk h dX4_readName_52
    · have h := zif' c27 h
      refine lv_aload_n hx hb dX4_readName_39 rfl (lv_at hl 1 rfl) ?_
      obtain ⟨w29, ew29, h⟩ := zbdE h
      refine zr_v (zr_runV (As := []) S hX hE (kX4_blame l D tc lo ad fr zq w w29 ew29) zyX4_blame qm_X4_47 zcl_X4 rfl (zc_36 w) ⟨rfl, rfl⟩ ⟨Nat.le_of_ble_eq_true rfl, Nat.le_of_ble_eq_true rfl⟩ rfl hl.1 rfl (Nat.le_of_ble_eq_true rfl) dX4_readName_40 ⟨Nat.zero_le _, Nat.zero_le _⟩) hE (fun H locs hE => ?_)
      exact zr_vret S hE hr hlk h dX4_readName_43
  refine lv_aload_n hx hb dX4_readName_0 rfl (lv_at hl 0 rfl) ?_
  obtain ⟨x10001, ex10001, h⟩ := zbdE h
  refine zr_getI S hK hE zcl_X4 (zc_36 w) 4 (Nat.le_of_ble_eq_true rfl) rfl qf_X4_22 dX4_readName_1 ex10001 ?_
  refine lv_aload_n hx hb dX4_readName_4 rfl (lv_at hl 0 rfl) ?_
  obtain ⟨x10002, ex10002, h⟩ := zbdE h
  refine zr_getI S hK hE zcl_X4 (zc_36 w) 3 (Nat.le_of_ble_eq_true rfl) rfl qf_X4_69 dX4_readName_5 ex10002 ?_
  refine lv_isub hx hb dX4_readName_8 ?_
  refine lv_iconst (v := 1) hx hb dX4_readName_9 (by decide) ?_
  refine lv_icmp_ne (tgt := 33) hx hb dX4_readName_10 (by decide) (fun c10003 => ?_) (fun c10003 => ?_)
  · have h := zif' c10003 h
    refine lv_iconst (v := (-1)) hx hb dX4_readName_33 (by decide) ?_
    exact J34 (-1) w ls _ _ h (lv_sub hl [0] rfl) hE
  · have h := zif c10003 h
    refine lv_aload_n hx hb dX4_readName_13 rfl (lv_at hl 0 rfl) ?_
    obtain ⟨x10004, w10005, ew10005, h⟩ := zbd2E h
    refine zr_s (zr_runV (As := []) S hX hE (kX4_names l D tc lo ad fr zq w x10004 w10005 ew10005) zyX4_names qm_X4_128 zcl_X4 rfl (zc_36 w) ⟨rfl, rfl⟩ ⟨Nat.le_of_ble_eq_true rfl, Nat.le_of_ble_eq_true rfl⟩ rfl hl.1 rfl (Nat.le_of_ble_eq_true rfl) dX4_readName_14 ⟨Nat.zero_le _, Nat.zero_le _⟩) hE (fun H locs hE => ?_)
    obtain ⟨hg10006, h⟩ := zgrdE h
    refine lv_aload_n hx hb dX4_readName_17 rfl (lv_at hl 0 rfl) ?_
    refine zr_getA S hK hE zcl_X4 (zc_36 w10005) 1 (Nat.le_of_ble_eq_true rfl) (q := 37) rfl qf_X4_9 dX4_readName_18 ?_
    refine lv_aload_n hx hb dX4_readName_21 rfl (lv_at hl 0 rfl) ?_
    obtain ⟨x10007, ex10007, h⟩ := zbdE h
    refine zr_getI S hK hE zcl_X4 (zc_36 w10005) 3 (Nat.le_of_ble_eq_true rfl) rfl qf_X4_69 dX4_readName_22 ex10007 ?_
    obtain ⟨x10008, ex10008, h⟩ := zbdE h
    refine zr_iald S hK hE (zc_37 w10005) dX4_readName_25 ex10008 ?_
    refine lv_i2c hx hb dX4_readName_26 rfl ?_
    obtain ⟨x10009, w10010, ew10010, h⟩ := zbd2E h
    refine zr_i (zr_runVS (As := [.int ((Int32.toUInt32 x10008 % 65536).toInt32)]) S hX hE (kJ0_indexOf_0f7a4 l D tc lo ad fr zq x10004 ((Int32.toUInt32 x10008 % 65536).toInt32) w10005 x10009 w10010 ew10010) zyJ0_indexOf_0f7a4 qm_X4_132 rfl (of_decide_eq_true hg10006) ⟨rfl, rfl⟩ ⟨Nat.le_of_ble_eq_true rfl, Nat.le_of_ble_eq_true rfl⟩ rfl hl.1 rfl (Nat.le_of_ble_eq_true rfl) dX4_readName_27 ⟨Nat.zero_le _, Nat.zero_le _⟩) hE (fun H locs hE => ?_)
    refine lv_goto (tgt := 34) hx hb dX4_readName_30 (by decide) ?_
    exact J34 x10009 w10010 ls _ _ h (lv_sub hl [0] rfl) hE
set_option maxHeartbeats 4000000 in
set_option maxRecDepth 100000 in
theorem kX4_readNumber (l : Launch) (D : va_G) (tc : Nat → ClassId) (lo : Nat) (ad : Nat → Nat) (fr : va_W) (zq : zz_Q) (w : zz_W) (w_ : zz_W) (h : fX4_readNumber w = some w_) : zMv l yX4_readNumber cX4_readNumber 3 none { frames := 3, cells := 0, slots := 0, locals := 65 } D tc lo ad zshC znnC fr zq [.ref (ad 36)] w w_ := by
  refine zr_entry (by decide) (Nat.le_of_ble_eq_true rfl) fun p e s m args below meth c ls S hX hr hlk hE hl => ?_
  have S : CallFix p m c cX4_readNumber 3 s args (Cond.code yX4_readNumber cX4_readNumber 3 none :: zw_tb) RX4 := S
  have hx := S.1
  have hb := S.2.1
  have hK := hX.2.1
  have hl : lv_has ls 3 [(0, .ref (ad 36))] := hl
  unfold fX4_readNumber at h
  have L25 : ∀ (n : Nat) (l1 : Int32) (l2 : Int32) (w : zz_W) (ls : Array Slot) (H : Heap) (locs : List Loc), fX4_readNumber_25 n l1 l2 w = some w_ → lv_has ls 3 [(0, .ref (ad 36)), (1, .int l1), (2, .int l2)] → zE D tc lo ad zshC znnC fr w s.heap H locs → W p l e { frames := 3, cells := 0, slots := 0, locals := 65 } s m args below meth c H locs 0 0 (zZv D tc lo ad zshC znnC fr below args s w_) (F0 m 25 ls []) := by
    intro n25
    induction n25 with
    | zero => intro l1 l2 w ls H locs h hl hE; rw [fX4_readNumber_25] at h; cases h
    | succ n25 ih25 =>
      intro l1 l2 w ls H locs h hl hE
      rw [fX4_readNumber_25] at h
      refine lv_iload_n hx hb dX4_readNumber_25 rfl (lv_at hl 2 rfl) ?_
      refine lv_aload_n hx hb dX4_readNumber_26 rfl (lv_at hl 0 rfl) ?_
      obtain ⟨x23, ex23, h⟩ := zbdE h
      refine zr_getI S hK hE zcl_X4 (zc_36 w) 4 (Nat.le_of_ble_eq_true rfl) rfl qf_X4_22 dX4_readNumber_27 ex23 ?_
      refine lv_icmp_ge (tgt := 54) hx hb dX4_readNumber_30 (by decide) (fun c24 => ?_) (fun c24 => ?_)
      · have h := zif c24 h
        refine lv_aload_n hx hb dX4_readNumber_54 rfl (lv_at hl 0 rfl) ?_
        refine lv_iload_n hx hb dX4_readNumber_55 rfl (lv_at hl 1 rfl) ?_
        obtain ⟨w25, ew25, h⟩ := zbdE h
        refine zr_v (zr_runV (As := [.int l1]) S hX hE (kX4_writeAtom l D tc lo ad fr zq l1 w w25 ew25) zyX4_writeAtom qm_X4_125 zcl_X4 rfl (zc_36 w) ⟨rfl, rfl⟩ ⟨Nat.le_of_ble_eq_true rfl, Nat.le_of_ble_eq_true rfl⟩ rfl hl.1 rfl (Nat.le_of_ble_eq_true rfl) dX4_readNumber_56 ⟨Nat.zero_le _, Nat.zero_le _⟩) hE (fun H locs hE => ?_)
        exact zr_vret S hE hr hlk h dX4_readNumber_59
      · have h := zif' c24 h
        refine lv_iload_n hx hb dX4_readNumber_33 rfl (lv_at hl 1 rfl) ?_
        refine lv_bipush (v := 10) hx hb dX4_readNumber_34 (by decide) ?_
        refine lv_imul hx hb dX4_readNumber_36 ?_
        refine lv_aload_n hx hb dX4_readNumber_37 rfl (lv_at hl 0 rfl) ?_
        refine zr_getA S hK hE zcl_X4 (zc_36 w) 1 (Nat.le_of_ble_eq_true rfl) (q := 37) rfl qf_X4_9 dX4_readNumber_38 ?_
        refine lv_iload_n hx hb dX4_readNumber_41 rfl (lv_at hl 2 rfl) ?_
        obtain ⟨x26, ex26, h⟩ := zbdE h
        refine zr_iald S hK hE (zc_37 w) dX4_readNumber_42 ex26 ?_
        refine lv_iadd hx hb dX4_readNumber_43 ?_
        refine lv_bipush (v := 48) hx hb dX4_readNumber_44 (by decide) ?_
        refine lv_isub hx hb dX4_readNumber_46 ?_
        obtain ⟨x27, ex27, h⟩ := zbdE h
        refine zr_topi ex27 ?_
        refine lv_istore_n (lv' := [(1, .int x27), (0, .ref (ad 36)), (2, .int l2)]) hx hb dX4_readNumber_47 rfl hl (by decide) rfl (fun ls hl => ?_)
        obtain ⟨x28, ex28, h⟩ := zbdE h
        refine lv_iinc (v := x28) (lv' := [(2, .int x28), (1, .int x27), (0, .ref (ad 36))]) hx hb dX4_readNumber_48 hl (k := 2) rfl (zinc (k := 1) (by decide) ex28) (by decide) rfl (fun ls hl => ?_)
        refine lv_goto (tgt := 25) hx hb dX4_readNumber_51 (by decide) ?_
        exact ih25 x27 x28 w ls _ _ h (lv_sub hl [2, 1, 0] rfl) hE
  refine lv_aload_n hx hb dX4_readNumber_0 rfl (lv_at hl 0 rfl) ?_
  obtain ⟨x10001, ex10001, h⟩ := zbdE h
  refine zr_getI S hK hE zcl_X4 (zc_36 w) 4 (Nat.le_of_ble_eq_true rfl) rfl qf_X4_22 dX4_readNumber_1 ex10001 ?_
  refine lv_aload_n hx hb dX4_readNumber_4 rfl (lv_at hl 0 rfl) ?_
  obtain ⟨x10002, ex10002, h⟩ := zbdE h
  refine zr_getI S hK hE zcl_X4 (zc_36 w) 3 (Nat.le_of_ble_eq_true rfl) rfl qf_X4_69 dX4_readNumber_5 ex10002 ?_
  refine lv_isub hx hb dX4_readNumber_8 ?_
  refine lv_iconst (v := 4) hx hb dX4_readNumber_9 (by decide) ?_
  refine lv_icmp_le (tgt := 18) hx hb dX4_readNumber_10 (by decide) (fun c10003 => ?_) (fun c10003 => ?_)
  · have h := zif c10003 h
    refine lv_iconst (v := 0) hx hb dX4_readNumber_18 (by decide) ?_
    refine lv_istore_n (lv' := [(1, .int 0), (0, .ref (ad 36))]) hx hb dX4_readNumber_19 rfl hl (by decide) rfl (fun ls hl => ?_)
    refine lv_aload_n hx hb dX4_readNumber_20 rfl (lv_at hl 1 rfl) ?_
    obtain ⟨x10004, ex10004, h⟩ := zbdE h
    refine zr_getI S hK hE zcl_X4 (zc_36 w) 3 (Nat.le_of_ble_eq_true rfl) rfl qf_X4_69 dX4_readNumber_21 ex10004 ?_
    refine lv_istore_n (lv' := [(2, .int x10004), (1, .int 0), (0, .ref (ad 36))]) hx hb dX4_readNumber_24 rfl hl (by decide) rfl (fun ls hl => ?_)
    exact L25 zfuel 0 x10004 w ls _ _ h (lv_sub hl [2, 1, 0] rfl) hE
  · have h := zif' c10003 h
    refine lv_aload_n hx hb dX4_readNumber_13 rfl (lv_at hl 0 rfl) ?_
    obtain ⟨w10005, ew10005, h⟩ := zbdE h
    refine zr_v (zr_runV (As := []) S hX hE (kX4_blame l D tc lo ad fr zq w w10005 ew10005) zyX4_blame qm_X4_47 zcl_X4 rfl (zc_36 w) ⟨rfl, rfl⟩ ⟨Nat.le_of_ble_eq_true rfl, Nat.le_of_ble_eq_true rfl⟩ rfl hl.1 rfl (Nat.le_of_ble_eq_true rfl) dX4_readNumber_14 ⟨Nat.zero_le _, Nat.zero_le _⟩) hE (fun H locs hE => ?_)
    exact zr_vret S hE hr hlk h dX4_readNumber_17
