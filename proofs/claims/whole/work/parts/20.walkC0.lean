set_option maxHeartbeats 4000000 in
set_option maxRecDepth 100000 in
theorem kX0_along (l : Launch) (D : va_G) (tc : Nat → ClassId) (lo : Nat) (ad : Nat → Nat) (fr : va_W) (zq : zz_Q) (a1 : Int32) (a2 : Int32) (w : zz_W) (r : Int64) (w_ : zz_W) (h : fX0_along a1 a2 w = some (r, w_)) : zMl l yX0_along cX0_along 5 (some .long) { frames := 0, cells := 0, slots := 0, locals := 0 } D tc lo ad zshC znnC fr zq [.int a1, .int a2] w r w_ := by
  refine zr_entry (by decide) (Nat.le_of_ble_eq_true rfl) fun p e s m args below meth c ls S hX hr hlk hE hl => ?_
  have S : CallFix p m c cX0_along 5 s args (Cond.code yX0_along cX0_along 5 (some .long) :: zw_tb) RX0 := S
  have hx := S.1
  have hb := S.2.1
  have hK := hX.2.1
  have hl : lv_has ls 5 [(0, .int a1), (1, .int a2)] := hl
  unfold fX0_along at h
  have L5 : ∀ (n : Nat) (l0 : Int32) (l2 : Int64) (l4 : Int32) (w : zz_W) (ls : Array Slot) (H : Heap) (locs : List Loc), fX0_along_5 a1 a2 n l0 l2 l4 w = some (r, w_) → lv_has ls 5 [(0, .int l0), (2, .long l2), (4, .int l4)] → zE D tc lo ad zshC znnC fr w s.heap H locs → W p l e { frames := 0, cells := 0, slots := 0, locals := 0 } s m args below meth c H locs 0 0 (zZl D tc lo ad zshC znnC fr below args s r w_) (F0 m 5 ls []) := by
    intro n5
    induction n5 with
    | zero => intro l0 l2 l4 w ls H locs h hl hE; rw [fX0_along_5] at h; cases h
    | succ n5 ih5 =>
      intro l0 l2 l4 w ls H locs h hl hE
      rw [fX0_along_5] at h
      refine lv_iload hx hb dX0_along_5 (lv_at hl 2 rfl) ?_
      refine lv_bipush (v := 6) hx hb dX0_along_7 (by decide) ?_
      refine lv_icmp_ge (tgt := 30) hx hb dX0_along_9 (by decide) (fun c7 => ?_) (fun c7 => ?_)
      · have h := zif c7 h
        refine lv_lload_n hx hb dX0_along_30 rfl (lv_at hl 1 rfl) ?_
        exact zr_lret S hE hr hlk h dX0_along_31
      · have h := zif' c7 h
        refine lv_lload_n hx hb dX0_along_12 rfl (lv_at hl 1 rfl) ?_
        refine lv_lconst (v := 1) hx hb dX0_along_13 (by decide) ?_
        refine lv_iload_n hx hb dX0_along_14 rfl (lv_at hl 0 rfl) ?_
        refine lv_bipush (v := 6) hx hb dX0_along_15 (by decide) ?_
        refine lv_imul hx hb dX0_along_17 ?_
        refine lv_iload hx hb dX0_along_18 (lv_at hl 2 rfl) ?_
        refine lv_iadd hx hb dX0_along_20 ?_
        refine lv_lshl hx hb dX0_along_21 rfl ?_
        refine lv_lor hx hb dX0_along_22 ?_
        obtain ⟨x8, ex8, h⟩ := zbdE h
        refine zr_topl ex8 ?_
        refine lv_lstore_n (lv' := [(2, .long x8), (0, .int l0), (4, .int l4)]) hx hb dX0_along_23 rfl hl (by decide) rfl (fun ls hl => ?_)
        obtain ⟨x9, ex9, h⟩ := zbdE h
        refine lv_iinc (v := x9) (lv' := [(4, .int x9), (2, .long x8), (0, .int l0)]) hx hb dX0_along_24 hl (k := 2) rfl (zinc (k := 1) (by decide) ex9) (by decide) rfl (fun ls hl => ?_)
        refine lv_goto (tgt := 5) hx hb dX0_along_27 (by decide) ?_
        exact ih5 l0 x8 x9 w ls _ _ h (lv_sub hl [2, 1, 0] rfl) hE
  refine lv_lconst (v := 0) hx hb dX0_along_0 (by decide) ?_
  refine lv_lstore_n (lv' := [(2, .long 0), (0, .int a1), (1, .int a2)]) hx hb dX0_along_1 rfl hl (by decide) rfl (fun ls hl => ?_)
  refine lv_iload_n hx hb dX0_along_2 rfl (lv_at hl 2 rfl) ?_
  refine lv_istore (lv' := [(4, .int a2), (2, .long 0), (0, .int a1), (1, .int a2)]) hx hb dX0_along_3 hl (by decide) rfl (fun ls hl => ?_)
  exact L5 zfuel a1 0 a2 w ls _ _ h (lv_sub hl [2, 1, 0] rfl) hE
set_option maxHeartbeats 4000000 in
set_option maxRecDepth 100000 in
theorem kX0_slanted (l : Launch) (D : va_G) (tc : Nat → ClassId) (lo : Nat) (ad : Nat → Nat) (fr : va_W) (zq : zz_Q) (a1 : Int32) (a2 : Int32) (w : zz_W) (r : Int64) (w_ : zz_W) (h : fX0_slanted a1 a2 w = some (r, w_)) : zMl l yX0_slanted cX0_slanted 5 (some .long) { frames := 1, cells := 0, slots := 0, locals := 21 } D tc lo ad zshC znnC fr zq [.int a1, .int a2] w r w_ := by
  refine zr_entry (by decide) (Nat.le_of_ble_eq_true rfl) fun p e s m args below meth c ls S hX hr hlk hE hl => ?_
  have S : CallFix p m c cX0_slanted 5 s args (Cond.code yX0_slanted cX0_slanted 5 (some .long) :: zw_tb) RX0 := S
  have hx := S.1
  have hb := S.2.1
  have hK := hX.2.1
  have hl : lv_has ls 5 [(0, .int a1), (1, .int a2)] := hl
  unfold fX0_slanted at h
  have L5 : ∀ (n : Nat) (l0 : Int32) (l1 : Int32) (l2 : Int64) (l4 : Int32) (w : zz_W) (ls : Array Slot) (H : Heap) (locs : List Loc), fX0_slanted_5 a1 a2 n l0 l1 l2 l4 w = some (r, w_) → lv_has ls 5 [(0, .int l0), (1, .int l1), (2, .long l2), (4, .int l4)] → zE D tc lo ad zshC znnC fr w s.heap H locs → W p l e { frames := 1, cells := 0, slots := 0, locals := 21 } s m args below meth c H locs 0 0 (zZl D tc lo ad zshC znnC fr below args s r w_) (F0 m 5 ls []) := by
    intro n5
    induction n5 with
    | zero => intro l0 l1 l2 l4 w ls H locs h hl hE; rw [fX0_slanted_5] at h; cases h
    | succ n5 ih5 =>
      intro l0 l1 l2 l4 w ls H locs h hl hE
      rw [fX0_slanted_5] at h
      refine lv_iload hx hb dX0_slanted_5 (lv_at hl 3 rfl) ?_
      refine lv_bipush (v := 6) hx hb dX0_slanted_7 (by decide) ?_
      refine lv_icmp_ge (tgt := 39) hx hb dX0_slanted_9 (by decide) (fun c7 => ?_) (fun c7 => ?_)
      · have h := zif c7 h
        refine lv_lload_n hx hb dX0_slanted_39 rfl (lv_at hl 2 rfl) ?_
        exact zr_lret S hE hr hlk h dX0_slanted_40
      · have h := zif' c7 h
        refine lv_lload_n hx hb dX0_slanted_12 rfl (lv_at hl 2 rfl) ?_
        refine lv_lconst (v := 1) hx hb dX0_slanted_13 (by decide) ?_
        refine lv_iload hx hb dX0_slanted_14 (lv_at hl 3 rfl) ?_
        refine lv_bipush (v := 6) hx hb dX0_slanted_16 (by decide) ?_
        refine lv_imul hx hb dX0_slanted_18 ?_
        refine lv_iconst (v := 5) hx hb dX0_slanted_19 (by decide) ?_
        refine lv_iload_n hx hb dX0_slanted_20 rfl (lv_at hl 1 rfl) ?_
        refine lv_iload hx hb dX0_slanted_21 (lv_at hl 3 rfl) ?_
        refine lv_iadd hx hb dX0_slanted_23 ?_
        refine lv_iload_n hx hb dX0_slanted_24 rfl (lv_at hl 0 rfl) ?_
        refine lv_isub hx hb dX0_slanted_25 ?_
        refine zr_mmin S zmath qm_X0_39 hl.1 ⟨Nat.le_of_ble_eq_true rfl, Nat.le_of_ble_eq_true rfl, Nat.zero_le _, Nat.zero_le _⟩ dX0_slanted_26 ?_
        refine lv_iadd hx hb dX0_slanted_29 ?_
        refine lv_lshl hx hb dX0_slanted_30 rfl ?_
        refine lv_lor hx hb dX0_slanted_31 ?_
        obtain ⟨x8, ex8, h⟩ := zbdE h
        refine zr_topl ex8 ?_
        refine lv_lstore_n (lv' := [(2, .long x8), (0, .int l0), (1, .int l1), (4, .int l4)]) hx hb dX0_slanted_32 rfl hl (by decide) rfl (fun ls hl => ?_)
        obtain ⟨x9, ex9, h⟩ := zbdE h
        refine lv_iinc (v := x9) (lv' := [(4, .int x9), (2, .long x8), (0, .int l0), (1, .int l1)]) hx hb dX0_slanted_33 hl (k := 3) rfl (zinc (k := 1) (by decide) ex9) (by decide) rfl (fun ls hl => ?_)
        refine lv_goto (tgt := 5) hx hb dX0_slanted_36 (by decide) ?_
        exact ih5 l0 l1 x8 x9 w ls _ _ h (lv_sub hl [2, 3, 1, 0] rfl) hE
  refine lv_lconst (v := 0) hx hb dX0_slanted_0 (by decide) ?_
  refine lv_lstore_n (lv' := [(2, .long 0), (0, .int a1), (1, .int a2)]) hx hb dX0_slanted_1 rfl hl (by decide) rfl (fun ls hl => ?_)
  refine lv_iload_n hx hb dX0_slanted_2 rfl (lv_at hl 1 rfl) ?_
  refine lv_istore (lv' := [(4, .int a1), (2, .long 0), (0, .int a1), (1, .int a2)]) hx hb dX0_slanted_3 hl (by decide) rfl (fun ls hl => ?_)
  exact L5 zfuel a1 a2 0 a1 w ls _ _ h (lv_sub hl [2, 3, 1, 0] rfl) hE
set_option maxHeartbeats 4000000 in
set_option maxRecDepth 100000 in
theorem kX0_upwards (l : Launch) (D : va_G) (tc : Nat → ClassId) (lo : Nat) (ad : Nat → Nat) (fr : va_W) (zq : zz_Q) (a1 : Int32) (a2 : Int32) (w : zz_W) (r : Int64) (w_ : zz_W) (h : fX0_upwards a1 a2 w = some (r, w_)) : zMl l yX0_upwards cX0_upwards 5 (some .long) { frames := 0, cells := 0, slots := 0, locals := 0 } D tc lo ad zshC znnC fr zq [.int a1, .int a2] w r w_ := by
  refine zr_entry (by decide) (Nat.le_of_ble_eq_true rfl) fun p e s m args below meth c ls S hX hr hlk hE hl => ?_
  have S : CallFix p m c cX0_upwards 5 s args (Cond.code yX0_upwards cX0_upwards 5 (some .long) :: zw_tb) RX0 := S
  have hx := S.1
  have hb := S.2.1
  have hK := hX.2.1
  have hl : lv_has ls 5 [(0, .int a1), (1, .int a2)] := hl
  unfold fX0_upwards at h
  have L5 : ∀ (n : Nat) (l1 : Int32) (l2 : Int64) (l4 : Int32) (w : zz_W) (ls : Array Slot) (H : Heap) (locs : List Loc), fX0_upwards_5 a1 a2 n l1 l2 l4 w = some (r, w_) → lv_has ls 5 [(1, .int l1), (2, .long l2), (4, .int l4)] → zE D tc lo ad zshC znnC fr w s.heap H locs → W p l e { frames := 0, cells := 0, slots := 0, locals := 0 } s m args below meth c H locs 0 0 (zZl D tc lo ad zshC znnC fr below args s r w_) (F0 m 5 ls []) := by
    intro n5
    induction n5 with
    | zero => intro l1 l2 l4 w ls H locs h hl hE; rw [fX0_upwards_5] at h; cases h
    | succ n5 ih5 =>
      intro l1 l2 l4 w ls H locs h hl hE
      rw [fX0_upwards_5] at h
      refine lv_iload hx hb dX0_upwards_5 (lv_at hl 2 rfl) ?_
      refine lv_bipush (v := 6) hx hb dX0_upwards_7 (by decide) ?_
      refine lv_icmp_ge (tgt := 30) hx hb dX0_upwards_9 (by decide) (fun c7 => ?_) (fun c7 => ?_)
      · have h := zif c7 h
        refine lv_lload_n hx hb dX0_upwards_30 rfl (lv_at hl 1 rfl) ?_
        exact zr_lret S hE hr hlk h dX0_upwards_31
      · have h := zif' c7 h
        refine lv_lload_n hx hb dX0_upwards_12 rfl (lv_at hl 1 rfl) ?_
        refine lv_lconst (v := 1) hx hb dX0_upwards_13 (by decide) ?_
        refine lv_iload hx hb dX0_upwards_14 (lv_at hl 2 rfl) ?_
        refine lv_bipush (v := 6) hx hb dX0_upwards_16 (by decide) ?_
        refine lv_imul hx hb dX0_upwards_18 ?_
        refine lv_iload_n hx hb dX0_upwards_19 rfl (lv_at hl 0 rfl) ?_
        refine lv_iadd hx hb dX0_upwards_20 ?_
        refine lv_lshl hx hb dX0_upwards_21 rfl ?_
        refine lv_lor hx hb dX0_upwards_22 ?_
        obtain ⟨x8, ex8, h⟩ := zbdE h
        refine zr_topl ex8 ?_
        refine lv_lstore_n (lv' := [(2, .long x8), (1, .int l1), (4, .int l4)]) hx hb dX0_upwards_23 rfl hl (by decide) rfl (fun ls hl => ?_)
        obtain ⟨x9, ex9, h⟩ := zbdE h
        refine lv_iinc (v := x9) (lv' := [(4, .int x9), (2, .long x8), (1, .int l1)]) hx hb dX0_upwards_24 hl (k := 2) rfl (zinc (k := 1) (by decide) ex9) (by decide) rfl (fun ls hl => ?_)
        refine lv_goto (tgt := 5) hx hb dX0_upwards_27 (by decide) ?_
        exact ih5 l1 x8 x9 w ls _ _ h (lv_sub hl [2, 1, 0] rfl) hE
  refine lv_lconst (v := 0) hx hb dX0_upwards_0 (by decide) ?_
  refine lv_lstore_n (lv' := [(2, .long 0), (0, .int a1), (1, .int a2)]) hx hb dX0_upwards_1 rfl hl (by decide) rfl (fun ls hl => ?_)
  refine lv_iload_n hx hb dX0_upwards_2 rfl (lv_at hl 1 rfl) ?_
  refine lv_istore (lv' := [(4, .int a1), (2, .long 0), (0, .int a1), (1, .int a2)]) hx hb dX0_upwards_3 hl (by decide) rfl (fun ls hl => ?_)
  exact L5 zfuel a2 0 a1 w ls _ _ h (lv_sub hl [3, 1, 0] rfl) hE
set_option maxHeartbeats 4000000 in
set_option maxRecDepth 100000 in
theorem kX0_cellsOf (l : Launch) (D : va_G) (tc : Nat → ClassId) (lo : Nat) (ad : Nat → Nat) (fr : va_W) (zq : zz_Q) (a1 : Int32) (a2 : Int32) (w : zz_W) (r : Int64) (w_ : zz_W) (h : fX0_cellsOf a1 a2 w = some (r, w_)) : zMl l yX0_cellsOf cX0_cellsOf 4 (some .long) { frames := 2, cells := 0, slots := 0, locals := 45 } D tc lo ad zshC znnC fr zq [.int a1, .int a2] w r w_ := by
  refine zr_entry (by decide) (Nat.le_of_ble_eq_true rfl) fun p e s m args below meth c ls S hX hr hlk hE hl => ?_
  have S : CallFix p m c cX0_cellsOf 4 s args (Cond.code yX0_cellsOf cX0_cellsOf 4 (some .long) :: zw_tb) RX0 := S
  have hx := S.1
  have hb := S.2.1
  have hK := hX.2.1
  have hl : lv_has ls 4 [(0, .int a1), (1, .int a2)] := hl
  unfold fX0_cellsOf at h
  refine lv_iload_n hx hb dX0_cellsOf_0 rfl (lv_at hl 1 rfl) ?_
  refine lv_bipush (v := 6) hx hb dX0_cellsOf_1 (by decide) ?_
  obtain ⟨x10001, ex10001, h⟩ := zbdE h
  refine zr_idiv hx hb dX0_cellsOf_3 ex10001 ?_
  refine lv_istore_n (lv' := [(2, .int x10001), (0, .int a1), (1, .int a2)]) hx hb dX0_cellsOf_4 rfl hl (by decide) rfl (fun ls hl => ?_)
  refine lv_iload_n hx hb dX0_cellsOf_5 rfl (lv_at hl 2 rfl) ?_
  refine lv_bipush (v := 6) hx hb dX0_cellsOf_6 (by decide) ?_
  obtain ⟨x10002, ex10002, h⟩ := zbdE h
  refine zr_irem hx hb dX0_cellsOf_8 ex10002 ?_
  refine lv_istore_n (lv' := [(3, .int x10002), (2, .int x10001), (0, .int a1), (1, .int a2)]) hx hb dX0_cellsOf_9 rfl hl (by decide) rfl (fun ls hl => ?_)
  refine lv_iload_n hx hb dX0_cellsOf_10 rfl (lv_at hl 2 rfl) ?_
  by_cases c10005 : a1 = 2
  · refine lv_tableIn (off := 35) (tgt := 46) hx hb dX0_cellsOf_11 (by rw [c10005]; decide) (by rw [c10005]; decide) (by rw [c10005]; decide) (by decide) ?_
    have h := zif c10005 h
    refine lv_iload_n hx hb dX0_cellsOf_46 rfl (lv_at hl 1 rfl) ?_
    refine lv_iload_n hx hb dX0_cellsOf_47 rfl (lv_at hl 0 rfl) ?_
    obtain ⟨x10003, w10004, ew10004, h⟩ := zbd2E h
    refine zr_l (zr_runS (As := [.int x10001, .int x10002]) S hX hE (kX0_along l D tc lo ad fr zq x10001 x10002 w x10003 w10004 ew10004) zyX0_along qm_X0_23 ⟨rfl, rfl⟩ ⟨Nat.le_of_ble_eq_true rfl, Nat.le_of_ble_eq_true rfl⟩ rfl hl.1 rfl (Nat.le_of_ble_eq_true rfl) dX0_cellsOf_48 ⟨Nat.zero_le _, Nat.zero_le _⟩) hE (fun H locs hE => ?_)
    exact zr_lret S hE hr hlk h dX0_cellsOf_51
  have h := zif' c10005 h
  by_cases c10008 : a1 = 3
  · refine lv_tableIn (off := 29) (tgt := 40) hx hb dX0_cellsOf_11 (by rw [c10008]; decide) (by rw [c10008]; decide) (by rw [c10008]; decide) (by decide) ?_
    have h := zif c10008 h
    refine lv_iload_n hx hb dX0_cellsOf_40 rfl (lv_at hl 1 rfl) ?_
    refine lv_iload_n hx hb dX0_cellsOf_41 rfl (lv_at hl 0 rfl) ?_
    obtain ⟨x10006, w10007, ew10007, h⟩ := zbd2E h
    refine zr_l (zr_runS (As := [.int x10001, .int x10002]) S hX hE (kX0_slanted l D tc lo ad fr zq x10001 x10002 w x10006 w10007 ew10007) zyX0_slanted qm_X0_19 ⟨rfl, rfl⟩ ⟨Nat.le_of_ble_eq_true rfl, Nat.le_of_ble_eq_true rfl⟩ rfl hl.1 rfl (Nat.le_of_ble_eq_true rfl) dX0_cellsOf_42 ⟨Nat.zero_le _, Nat.zero_le _⟩) hE (fun H locs hE => ?_)
    exact zr_lret S hE hr hlk h dX0_cellsOf_45
  have h := zif' c10008 h
  by_cases c10013 : a1 = 4
  · refine lv_tableIn (off := 41) (tgt := 52) hx hb dX0_cellsOf_11 (by rw [c10013]; decide) (by rw [c10013]; decide) (by rw [c10013]; decide) (by decide) ?_
    have h := zif c10013 h
    refine lv_iload_n hx hb dX0_cellsOf_52 rfl (lv_at hl 1 rfl) ?_
    refine lv_iload_n hx hb dX0_cellsOf_53 rfl (lv_at hl 0 rfl) ?_
    obtain ⟨x10009, w10010, ew10010, h⟩ := zbd2E h
    refine zr_l (zr_runS (As := [.int x10001, .int x10002]) S hX hE (kX0_along l D tc lo ad fr zq x10001 x10002 w x10009 w10010 ew10010) zyX0_along qm_X0_23 ⟨rfl, rfl⟩ ⟨Nat.le_of_ble_eq_true rfl, Nat.le_of_ble_eq_true rfl⟩ rfl hl.1 rfl (Nat.le_of_ble_eq_true rfl) dX0_cellsOf_54 ⟨Nat.zero_le _, Nat.zero_le _⟩) hE (fun H locs hE => ?_)
    refine lv_iload_n hx hb dX0_cellsOf_57 rfl (lv_at hl 1 rfl) ?_
    refine lv_iconst (v := 1) hx hb dX0_cellsOf_58 (by decide) ?_
    refine lv_iadd hx hb dX0_cellsOf_59 ?_
    refine lv_iconst (v := 5) hx hb dX0_cellsOf_60 (by decide) ?_
    obtain ⟨x10011, w10012, ew10012, h⟩ := zbd2E h
    refine zr_l (zr_runS (As := [.int (x10001 + 1), .int 5]) S hX hE (kX0_upwards l D tc lo ad fr zq (x10001 + 1) 5 w10010 x10011 w10012 ew10012) zyX0_upwards qm_X0_26 ⟨rfl, rfl⟩ ⟨Nat.le_of_ble_eq_true rfl, Nat.le_of_ble_eq_true rfl⟩ rfl hl.1 rfl (Nat.le_of_ble_eq_true rfl) dX0_cellsOf_61 ⟨Nat.zero_le _, Nat.zero_le _⟩) hE (fun H locs hE => ?_)
    refine lv_lor hx hb dX0_cellsOf_64 ?_
    exact zr_lret S hE hr hlk h dX0_cellsOf_65
  have h := zif' c10013 h
  by_cases c10019 : a1 = 5
  · refine lv_tableIn (off := 55) (tgt := 66) hx hb dX0_cellsOf_11 (by rw [c10019]; decide) (by rw [c10019]; decide) (by rw [c10019]; decide) (by decide) ?_
    have h := zif c10019 h
    refine lv_iconst (v := 0) hx hb dX0_cellsOf_66 (by decide) ?_
    refine lv_iload_n hx hb dX0_cellsOf_67 rfl (lv_at hl 0 rfl) ?_
    obtain ⟨x10014, w10015, ew10015, h⟩ := zbd2E h
    refine zr_l (zr_runS (As := [.int 0, .int x10002]) S hX hE (kX0_upwards l D tc lo ad fr zq 0 x10002 w x10014 w10015 ew10015) zyX0_upwards qm_X0_26 ⟨rfl, rfl⟩ ⟨Nat.le_of_ble_eq_true rfl, Nat.le_of_ble_eq_true rfl⟩ rfl hl.1 rfl (Nat.le_of_ble_eq_true rfl) dX0_cellsOf_68 ⟨Nat.zero_le _, Nat.zero_le _⟩) hE (fun H locs hE => ?_)
    refine lv_iconst (v := 0) hx hb dX0_cellsOf_71 (by decide) ?_
    refine lv_iload_n hx hb dX0_cellsOf_72 rfl (lv_at hl 0 rfl) ?_
    refine lv_iconst (v := 3) hx hb dX0_cellsOf_73 (by decide) ?_
    refine lv_iadd hx hb dX0_cellsOf_74 ?_
    refine lv_bipush (v := 6) hx hb dX0_cellsOf_75 (by decide) ?_
    obtain ⟨x10016, ex10016, h⟩ := zbdE h
    refine zr_irem hx hb dX0_cellsOf_77 ex10016 ?_
    obtain ⟨x10017, w10018, ew10018, h⟩ := zbd2E h
    refine zr_l (zr_runS (As := [.int 0, .int x10016]) S hX hE (kX0_upwards l D tc lo ad fr zq 0 x10016 w10015 x10017 w10018 ew10018) zyX0_upwards qm_X0_26 ⟨rfl, rfl⟩ ⟨Nat.le_of_ble_eq_true rfl, Nat.le_of_ble_eq_true rfl⟩ rfl hl.1 rfl (Nat.le_of_ble_eq_true rfl) dX0_cellsOf_78 ⟨Nat.zero_le _, Nat.zero_le _⟩) hE (fun H locs hE => ?_)
    refine lv_lor hx hb dX0_cellsOf_81 ?_
    exact zr_lret S hE hr hlk h dX0_cellsOf_82
  have h := zif' c10019 h
  refine lv_tableOut (tgt := 83) hx hb dX0_cellsOf_11 (by have tc10005 := lv_neT c10005 (a := 2) (by decide); have tc10008 := lv_neT c10008 (a := 3) (by decide); have tc10013 := lv_neT c10013 (a := 4) (by decide); have tc10019 := lv_neT c10019 (a := 5) (by decide); omega) (by decide) ?_
  refine lv_iload_n hx hb dX0_cellsOf_83 rfl (lv_at hl 1 rfl) ?_
  refine lv_iload_n hx hb dX0_cellsOf_84 rfl (lv_at hl 0 rfl) ?_
  obtain ⟨x10020, w10021, ew10021, h⟩ := zbd2E h
  refine zr_l (zr_runS (As := [.int x10001, .int x10002]) S hX hE (kX0_upwards l D tc lo ad fr zq x10001 x10002 w x10020 w10021 ew10021) zyX0_upwards qm_X0_26 ⟨rfl, rfl⟩ ⟨Nat.le_of_ble_eq_true rfl, Nat.le_of_ble_eq_true rfl⟩ rfl hl.1 rfl (Nat.le_of_ble_eq_true rfl) dX0_cellsOf_85 ⟨Nat.zero_le _, Nat.zero_le _⟩) hE (fun H locs hE => ?_)
  exact zr_lret S hE hr hlk h dX0_cellsOf_88
set_option maxHeartbeats 4000000 in
set_option maxRecDepth 100000 in
theorem kX0_cellsTold (l : Launch) (D : va_G) (tc : Nat → ClassId) (lo : Nat) (ad : Nat → Nat) (fr : va_W) (zq : zz_Q) (a1 : Int32) (a2 : Int32) (a3 : Int32) (a4 : Int64) (w : zz_W) (r : Int64) (w_ : zz_W) (h : fX0_cellsTold a1 a2 a3 a4 w = some (r, w_)) : zMl l yX0_cellsTold cX0_cellsTold 6 (some .long) { frames := 0, cells := 0, slots := 0, locals := 0 } D tc lo ad zshC znnC fr zq [.int a1, .int a2, .int a3, .long a4] w r w_ := by
  refine zr_entry (by decide) (Nat.le_of_ble_eq_true rfl) fun p e s m args below meth c ls S hX hr hlk hE hl => ?_
  have S : CallFix p m c cX0_cellsTold 6 s args (Cond.code yX0_cellsTold cX0_cellsTold 6 (some .long) :: zw_tb) RX0 := S
  have hx := S.1
  have hb := S.2.1
  have hK := hX.2.1
  have hl : lv_has ls 6 [(0, .int a1), (1, .int a2), (2, .int a3), (3, .long a4)] := hl
  unfold fX0_cellsTold at h
  have J15 : ∀ (l0 : Int32) (l1 : Int32) (l2 : Int32) (l3 : Int64) (s0 : Int32) (w : zz_W) (ls : Array Slot) (H : Heap) (locs : List Loc), fX0_cellsTold_15 a1 a2 a3 a4 l0 l1 l2 l3 s0 w = some (r, w_) → lv_has ls 6 [(0, .int l0), (1, .int l1), (2, .int l2), (3, .long l3)] → zE D tc lo ad zshC znnC fr w s.heap H locs → W p l e { frames := 0, cells := 0, slots := 0, locals := 0 } s m args below meth c H locs 0 0 (zZl D tc lo ad zshC znnC fr below args s r w_) (F0 m 15 ls [.int s0]) := by
    intro l0 l1 l2 l3 s0 w ls H locs h hl hE
    unfold fX0_cellsTold_15 at h
    refine lv_istore (lv' := [(5, .int s0), (0, .int l0), (1, .int l1), (2, .int l2), (3, .long l3)]) hx hb dX0_cellsTold_15 hl (by decide) rfl (fun ls hl => ?_)
    refine lv_iload_n hx hb dX0_cellsTold_17 rfl (lv_at hl 3 rfl) ?_
    by_cases c28 : l2 = 0
    · refine lv_tableIn (off := 26) (tgt := 44) hx hb dX0_cellsTold_18 (by rw [c28]; decide) (by rw [c28]; decide) (by rw [c28]; decide) (by decide) ?_
      have h := zif c28 h
      refine lv_iload_n hx hb dX0_cellsTold_44 rfl (lv_at hl 1 rfl) ?_
      refine lv_iconst (v := 5) hx hb dX0_cellsTold_45 (by decide) ?_
      refine lv_icmp_eq (tgt := 59) hx hb dX0_cellsTold_46 (by decide) (fun c25 => ?_) (fun c25 => ?_)
      · have h := zif c25 h
        refine lv_lload_n hx hb dX0_cellsTold_59 rfl (lv_at hl 4 rfl) ?_
        refine lv_goto (tgt := 64) hx hb dX0_cellsTold_60 (by decide) ?_
        exact zr_lret S hE hr hlk h dX0_cellsTold_64
      · have h := zif' c25 h
        refine lv_iload hx hb dX0_cellsTold_49 (lv_at hl 0 rfl) ?_
        refine lv_if_eq (tgt := 63) hx hb dX0_cellsTold_51 (by decide) (fun c26 => ?_) (fun c26 => ?_)
        · have h := zif c26 h
          refine lv_lconst (v := 0) hx hb dX0_cellsTold_63 (by decide) ?_
          exact zr_lret S hE hr hlk h dX0_cellsTold_64
        · have h := zif' c26 h
          refine lv_iload_n hx hb dX0_cellsTold_54 rfl (lv_at hl 2 rfl) ?_
          refine lv_iconst (v := 3) hx hb dX0_cellsTold_55 (by decide) ?_
          refine lv_icmp_gt (tgt := 63) hx hb dX0_cellsTold_56 (by decide) (fun c27 => ?_) (fun c27 => ?_)
          · have h := zif c27 h
            refine lv_lconst (v := 0) hx hb dX0_cellsTold_63 (by decide) ?_
            exact zr_lret S hE hr hlk h dX0_cellsTold_64
          · have h := zif' c27 h
            refine lv_lload_n hx hb dX0_cellsTold_59 rfl (lv_at hl 4 rfl) ?_
            refine lv_goto (tgt := 64) hx hb dX0_cellsTold_60 (by decide) ?_
            exact zr_lret S hE hr hlk h dX0_cellsTold_64
    have h := zif' c28 h
    by_cases c32 : l2 = 1
    · refine lv_tableIn (off := 47) (tgt := 65) hx hb dX0_cellsTold_18 (by rw [c32]; decide) (by rw [c32]; decide) (by rw [c32]; decide) (by decide) ?_
      have h := zif c32 h
      refine lv_iload_n hx hb dX0_cellsTold_65 rfl (lv_at hl 1 rfl) ?_
      refine lv_iconst (v := 5) hx hb dX0_cellsTold_66 (by decide) ?_
      refine lv_icmp_ne (tgt := 76) hx hb dX0_cellsTold_67 (by decide) (fun c29 => ?_) (fun c29 => ?_)
      · have h := zif' c29 h
        refine lv_iload hx hb dX0_cellsTold_76 (lv_at hl 0 rfl) ?_
        refine lv_if_eq (tgt := 91) hx hb dX0_cellsTold_78 (by decide) (fun c30 => ?_) (fun c30 => ?_)
        · have h := zif c30 h
          refine lv_lload_n hx hb dX0_cellsTold_91 rfl (lv_at hl 4 rfl) ?_
          exact zr_lret S hE hr hlk h dX0_cellsTold_92
        · have h := zif' c30 h
          refine lv_iload_n hx hb dX0_cellsTold_81 rfl (lv_at hl 2 rfl) ?_
          refine lv_bipush (v := 6) hx hb dX0_cellsTold_82 (by decide) ?_
          refine lv_icmp_le (tgt := 91) hx hb dX0_cellsTold_84 (by decide) (fun c31 => ?_) (fun c31 => ?_)
          · have h := zif c31 h
            refine lv_lload_n hx hb dX0_cellsTold_91 rfl (lv_at hl 4 rfl) ?_
            exact zr_lret S hE hr hlk h dX0_cellsTold_92
          · have h := zif' c31 h
            refine lv_lconst (v := 0) hx hb dX0_cellsTold_87 (by decide) ?_
            refine lv_goto (tgt := 92) hx hb dX0_cellsTold_88 (by decide) ?_
            exact zr_lret S hE hr hlk h dX0_cellsTold_92
      · have h := zif c29 h
        refine lv_lload_n hx hb dX0_cellsTold_70 rfl (lv_at hl 4 rfl) ?_
        refine zr_ldc2 S qd_X0_31 dX0_cellsTold_71 ?_
        refine lv_land hx hb dX0_cellsTold_74 ?_
        exact zr_lret S hE hr hlk h dX0_cellsTold_75
    have h := zif' c32 h
    by_cases c34 : l2 = 2
    · refine lv_tableIn (off := 75) (tgt := 93) hx hb dX0_cellsTold_18 (by rw [c34]; decide) (by rw [c34]; decide) (by rw [c34]; decide) (by decide) ?_
      have h := zif c34 h
      refine lv_iload hx hb dX0_cellsTold_93 (lv_at hl 0 rfl) ?_
      refine lv_if_eq (tgt := 102) hx hb dX0_cellsTold_95 (by decide) (fun c33 => ?_) (fun c33 => ?_)
      · have h := zif c33 h
        refine lv_lconst (v := 0) hx hb dX0_cellsTold_102 (by decide) ?_
        exact zr_lret S hE hr hlk h dX0_cellsTold_103
      · have h := zif' c33 h
        refine lv_lload_n hx hb dX0_cellsTold_98 rfl (lv_at hl 4 rfl) ?_
        refine lv_goto (tgt := 103) hx hb dX0_cellsTold_99 (by decide) ?_
        exact zr_lret S hE hr hlk h dX0_cellsTold_103
    have h := zif' c34 h
    refine lv_tableOut (tgt := 104) hx hb dX0_cellsTold_18 (by have tc28 := lv_neT c28 (a := 0) (by decide); have tc32 := lv_neT c32 (a := 1) (by decide); have tc34 := lv_neT c34 (a := 2) (by decide); omega) (by decide) ?_
    refine lv_lload_n hx hb dX0_cellsTold_104 rfl (lv_at hl 4 rfl) ?_
    exact zr_lret S hE hr hlk h dX0_cellsTold_105
  have J10 : ∀ (l0 : Int32) (l1 : Int32) (l2 : Int32) (l3 : Int64) (w : zz_W) (ls : Array Slot) (H : Heap) (locs : List Loc), fX0_cellsTold_10 a1 a2 a3 a4 l0 l1 l2 l3 w = some (r, w_) → lv_has ls 6 [(0, .int l0), (1, .int l1), (2, .int l2), (3, .long l3)] → zE D tc lo ad zshC znnC fr w s.heap H locs → W p l e { frames := 0, cells := 0, slots := 0, locals := 0 } s m args below meth c H locs 0 0 (zZl D tc lo ad zshC znnC fr below args s r w_) (F0 m 10 ls []) := by
    intro l0 l1 l2 l3 w ls H locs h hl hE
    unfold fX0_cellsTold_10 at h
    refine lv_iconst (v := 1) hx hb dX0_cellsTold_10 (by decide) ?_
    refine lv_goto (tgt := 15) hx hb dX0_cellsTold_11 (by decide) ?_
    exact J15 l0 l1 l2 l3 1 w ls _ _ h (lv_sub hl [0, 1, 2, 3] rfl) hE
  refine lv_iload_n hx hb dX0_cellsTold_0 rfl (lv_at hl 0 rfl) ?_
  refine lv_iconst (v := 2) hx hb dX0_cellsTold_1 (by decide) ?_
  refine lv_icmp_eq (tgt := 10) hx hb dX0_cellsTold_2 (by decide) (fun c10001 => ?_) (fun c10001 => ?_)
  · have h := zif c10001 h
    exact J10 a1 a2 a3 a4 w ls _ _ h (lv_sub hl [0, 1, 2, 3] rfl) hE
  · have h := zif' c10001 h
    refine lv_iload_n hx hb dX0_cellsTold_5 rfl (lv_at hl 0 rfl) ?_
    refine lv_iconst (v := 4) hx hb dX0_cellsTold_6 (by decide) ?_
    refine lv_icmp_ne (tgt := 14) hx hb dX0_cellsTold_7 (by decide) (fun c10002 => ?_) (fun c10002 => ?_)
    · have h := zif' c10002 h
      refine lv_iconst (v := 0) hx hb dX0_cellsTold_14 (by decide) ?_
      exact J15 a1 a2 a3 a4 0 w ls _ _ h (lv_sub hl [0, 1, 2, 3] rfl) hE
    · have h := zif c10002 h
      exact J10 a1 a2 a3 a4 w ls _ _ h (lv_sub hl [0, 1, 2, 3] rfl) hE
set_option maxHeartbeats 4000000 in
set_option maxRecDepth 100000 in
theorem kX0_columnsIn (l : Launch) (D : va_G) (tc : Nat → ClassId) (lo : Nat) (ad : Nat → Nat) (fr : va_W) (zq : zz_Q) (a1 : Int64) (a2 : Int32) (w : zz_W) (r : Int32) (w_ : zz_W) (h : fX0_columnsIn a1 a2 w = some (r, w_)) : zMi l yX0_columnsIn cX0_columnsIn 3 (some .int) { frames := 0, cells := 0, slots := 0, locals := 0 } D tc lo ad zshC znnC fr zq [.long a1, .int a2] w r w_ := by
  refine zr_entry (by decide) (Nat.le_of_ble_eq_true rfl) fun p e s m args below meth c ls S hX hr hlk hE hl => ?_
  have S : CallFix p m c cX0_columnsIn 3 s args (Cond.code yX0_columnsIn cX0_columnsIn 3 (some .int) :: zw_tb) RX0 := S
  have hx := S.1
  have hb := S.2.1
  have hK := hX.2.1
  have hl : lv_has ls 3 [(0, .long a1), (2, .int a2)] := hl
  unfold fX0_columnsIn at h
  refine lv_lload_n hx hb dX0_columnsIn_0 rfl (lv_at hl 0 rfl) ?_
  refine lv_iload_n hx hb dX0_columnsIn_1 rfl (lv_at hl 1 rfl) ?_
  refine lv_bipush (v := 6) hx hb dX0_columnsIn_2 (by decide) ?_
  refine lv_imul hx hb dX0_columnsIn_4 ?_
  refine lv_lushr hx hb dX0_columnsIn_5 rfl ?_
  refine zr_ldc2 S qd_X0_29 dX0_columnsIn_6 ?_
  refine lv_land hx hb dX0_columnsIn_9 ?_
  refine lv_l2i hx hb dX0_columnsIn_10 rfl ?_
  exact zr_iret S hE hr hlk h dX0_columnsIn_11
set_option maxHeartbeats 4000000 in
set_option maxRecDepth 100000 in
theorem kX0_has (l : Launch) (D : va_G) (tc : Nat → ClassId) (lo : Nat) (ad : Nat → Nat) (fr : va_W) (zq : zz_Q) (a1 : Int64) (a2 : Int32) (w : zz_W) (r : Int32) (w_ : zz_W) (h : fX0_has a1 a2 w = some (r, w_)) : zMi l yX0_has cX0_has 3 (some .boolean) { frames := 0, cells := 0, slots := 0, locals := 0 } D tc lo ad zshC znnC fr zq [.long a1, .int a2] w r w_ := by
  refine zr_entry (by decide) (Nat.le_of_ble_eq_true rfl) fun p e s m args below meth c ls S hX hr hlk hE hl => ?_
  have S : CallFix p m c cX0_has 3 s args (Cond.code yX0_has cX0_has 3 (some .boolean) :: zw_tb) RX0 := S
  have hx := S.1
  have hb := S.2.1
  have hK := hX.2.1
  have hl : lv_has ls 3 [(0, .long a1), (2, .int a2)] := hl
  unfold fX0_has at h
  refine lv_lload_n hx hb dX0_has_0 rfl (lv_at hl 0 rfl) ?_
  refine lv_iload_n hx hb dX0_has_1 rfl (lv_at hl 1 rfl) ?_
  refine lv_lushr hx hb dX0_has_2 rfl ?_
  refine lv_lconst (v := 1) hx hb dX0_has_3 (by decide) ?_
  refine lv_land hx hb dX0_has_4 ?_
  refine lv_lconst (v := 0) hx hb dX0_has_5 (by decide) ?_
  refine W.lcmp hx hb dX0_has_6 ?_
  refine lv_if_eq (tgt := 14) hx hb dX0_has_7 (by decide) (fun c10001 => ?_) (fun c10001 => ?_)
  · have h := zif c10001 h
    refine lv_iconst (v := 0) hx hb dX0_has_14 (by decide) ?_
    exact zr_zret S hE hr hlk (by decide) h dX0_has_15
  · have h := zif' c10001 h
    refine lv_iconst (v := 1) hx hb dX0_has_10 (by decide) ?_
    refine lv_goto (tgt := 15) hx hb dX0_has_11 (by decide) ?_
    exact zr_zret S hE hr hlk (by decide) h dX0_has_15
set_option maxHeartbeats 4000000 in
set_option maxRecDepth 100000 in
theorem kX0_hurtOf (l : Launch) (D : va_G) (tc : Nat → ClassId) (lo : Nat) (ad : Nat → Nat) (fr : va_W) (zq : zz_Q) (a1 : Int32) (a2 : Int32) (w : zz_W) (r : Int32) (w_ : zz_W) (h : fX0_hurtOf a1 a2 w = some (r, w_)) : zMi l yX0_hurtOf cX0_hurtOf 2 (some .int) { frames := 1, cells := 0, slots := 0, locals := 21 } D tc lo ad zshC znnC fr zq [.int a1, .int a2] w r w_ := by
  refine zr_entry (by decide) (Nat.le_of_ble_eq_true rfl) fun p e s m args below meth c ls S hX hr hlk hE hl => ?_
  have S : CallFix p m c cX0_hurtOf 2 s args (Cond.code yX0_hurtOf cX0_hurtOf 2 (some .int) :: zw_tb) RX0 := S
  have hx := S.1
  have hb := S.2.1
  have hK := hX.2.1
  have hl : lv_has ls 2 [(0, .int a1), (1, .int a2)] := hl
  unfold fX0_hurtOf at h
  refine lv_iload_n hx hb dX0_hurtOf_0 rfl (lv_at hl 0 rfl) ?_
  by_cases c10001 : a1 = 1
  · refine lv_tableIn (off := 35) (tgt := 36) hx hb dX0_hurtOf_1 (by rw [c10001]; decide) (by rw [c10001]; decide) (by rw [c10001]; decide) (by decide) ?_
    have h := zif c10001 h
    refine lv_iconst (v := 2) hx hb dX0_hurtOf_36 (by decide) ?_
    refine lv_iload_n hx hb dX0_hurtOf_37 rfl (lv_at hl 1 rfl) ?_
    refine lv_imul hx hb dX0_hurtOf_38 ?_
    exact zr_iret S hE hr hlk h dX0_hurtOf_39
  have h := zif' c10001 h
  by_cases c10002 : a1 = 2
  · refine lv_tableIn (off := 45) (tgt := 46) hx hb dX0_hurtOf_1 (by rw [c10002]; decide) (by rw [c10002]; decide) (by rw [c10002]; decide) (by decide) ?_
    have h := zif c10002 h
    refine lv_iload_n hx hb dX0_hurtOf_46 rfl (lv_at hl 1 rfl) ?_
    refine lv_bipush (v := 9) hx hb dX0_hurtOf_47 (by decide) ?_
    refine lv_iadd hx hb dX0_hurtOf_49 ?_
    exact zr_iret S hE hr hlk h dX0_hurtOf_50
  have h := zif' c10002 h
  by_cases c10003 : a1 = 3
  · refine lv_tableIn (off := 39) (tgt := 40) hx hb dX0_hurtOf_1 (by rw [c10003]; decide) (by rw [c10003]; decide) (by rw [c10003]; decide) (by decide) ?_
    have h := zif c10003 h
    refine lv_iconst (v := 2) hx hb dX0_hurtOf_40 (by decide) ?_
    refine lv_iload_n hx hb dX0_hurtOf_41 rfl (lv_at hl 1 rfl) ?_
    refine lv_imul hx hb dX0_hurtOf_42 ?_
    refine lv_iconst (v := 1) hx hb dX0_hurtOf_43 (by decide) ?_
    refine lv_iadd hx hb dX0_hurtOf_44 ?_
    exact zr_iret S hE hr hlk h dX0_hurtOf_45
  have h := zif' c10003 h
  by_cases c10004 : a1 = 4
  · refine lv_tableIn (off := 50) (tgt := 51) hx hb dX0_hurtOf_1 (by rw [c10004]; decide) (by rw [c10004]; decide) (by rw [c10004]; decide) (by decide) ?_
    have h := zif c10004 h
    refine lv_iconst (v := 0) hx hb dX0_hurtOf_51 (by decide) ?_
    refine lv_iload_n hx hb dX0_hurtOf_52 rfl (lv_at hl 1 rfl) ?_
    refine lv_bipush (v := 7) hx hb dX0_hurtOf_53 (by decide) ?_
    refine lv_iadd hx hb dX0_hurtOf_55 ?_
    refine zr_mmax S zmath qm_X0_33 hl.1 ⟨Nat.le_of_ble_eq_true rfl, Nat.le_of_ble_eq_true rfl, Nat.zero_le _, Nat.zero_le _⟩ dX0_hurtOf_56 ?_
    exact zr_iret S hE hr hlk h dX0_hurtOf_59
  have h := zif' c10004 h
  by_cases c10005 : a1 = 5
  · refine lv_tableIn (off := 59) (tgt := 60) hx hb dX0_hurtOf_1 (by rw [c10005]; decide) (by rw [c10005]; decide) (by rw [c10005]; decide) (by decide) ?_
    have h := zif c10005 h
    refine lv_iconst (v := 1) hx hb dX0_hurtOf_60 (by decide) ?_
    exact zr_iret S hE hr hlk h dX0_hurtOf_61
  have h := zif' c10005 h
  refine lv_tableOut (tgt := 62) hx hb dX0_hurtOf_1 (by have tc10001 := lv_neT c10001 (a := 1) (by decide); have tc10002 := lv_neT c10002 (a := 2) (by decide); have tc10003 := lv_neT c10003 (a := 3) (by decide); have tc10004 := lv_neT c10004 (a := 4) (by decide); have tc10005 := lv_neT c10005 (a := 5) (by decide); omega) (by decide) ?_
  refine lv_iload_n hx hb dX0_hurtOf_62 rfl (lv_at hl 1 rfl) ?_
  exact zr_iret S hE hr hlk h dX0_hurtOf_63
set_option maxHeartbeats 4000000 in
set_option maxRecDepth 100000 in
theorem kX7_within (l : Launch) (D : va_G) (tc : Nat → ClassId) (lo : Nat) (ad : Nat → Nat) (fr : va_W) (zq : zz_Q) (a1 : Int32) (a2 : Int32) (a3 : Int32) (w : zz_W) (r : Int32) (w_ : zz_W) (h : fX7_within a1 a2 a3 w = some (r, w_)) : zMi l yX7_within cX7_within 3 (some .boolean) { frames := 0, cells := 0, slots := 0, locals := 0 } D tc lo ad zshC znnC fr zq [.int a1, .int a2, .int a3] w r w_ := by
  refine zr_entry (by decide) (Nat.le_of_ble_eq_true rfl) fun p e s m args below meth c ls S hX hr hlk hE hl => ?_
  have S : CallFix p m c cX7_within 3 s args (Cond.code yX7_within cX7_within 3 (some .boolean) :: zw_tb) RX7 := S
  have hx := S.1
  have hb := S.2.1
  have hK := hX.2.1
  have hl : lv_has ls 3 [(0, .int a1), (1, .int a2), (2, .int a3)] := hl
  unfold fX7_within at h
  refine lv_iload_n hx hb dX7_within_0 rfl (lv_at hl 0 rfl) ?_
  refine lv_iload_n hx hb dX7_within_1 rfl (lv_at hl 1 rfl) ?_
  refine lv_icmp_lt (tgt := 14) hx hb dX7_within_2 (by decide) (fun c10001 => ?_) (fun c10001 => ?_)
  · have h := zif c10001 h
    refine lv_iconst (v := 0) hx hb dX7_within_14 (by decide) ?_
    exact zr_zret S hE hr hlk (by decide) h dX7_within_15
  · have h := zif' c10001 h
    refine lv_iload_n hx hb dX7_within_5 rfl (lv_at hl 0 rfl) ?_
    refine lv_iload_n hx hb dX7_within_6 rfl (lv_at hl 2 rfl) ?_
    refine lv_icmp_gt (tgt := 14) hx hb dX7_within_7 (by decide) (fun c10002 => ?_) (fun c10002 => ?_)
    · have h := zif c10002 h
      refine lv_iconst (v := 0) hx hb dX7_within_14 (by decide) ?_
      exact zr_zret S hE hr hlk (by decide) h dX7_within_15
    · have h := zif' c10002 h
      refine lv_iconst (v := 1) hx hb dX7_within_10 (by decide) ?_
      refine lv_goto (tgt := 15) hx hb dX7_within_11 (by decide) ?_
      exact zr_zret S hE hr hlk (by decide) h dX7_within_15
set_option maxHeartbeats 4000000 in
set_option maxRecDepth 100000 in
theorem kX7_isKind (l : Launch) (D : va_G) (tc : Nat → ClassId) (lo : Nat) (ad : Nat → Nat) (fr : va_W) (zq : zz_Q) (a1 : Int32) (w : zz_W) (r : Int32) (w_ : zz_W) (h : fX7_isKind a1 w = some (r, w_)) : zMi l yX7_isKind cX7_isKind 1 (some .boolean) { frames := 1, cells := 0, slots := 0, locals := 22 } D tc lo ad zshC znnC fr zq [.int a1] w r w_ := by
  refine zr_entry (by decide) (Nat.le_of_ble_eq_true rfl) fun p e s m args below meth c ls S hX hr hlk hE hl => ?_
  have S : CallFix p m c cX7_isKind 1 s args (Cond.code yX7_isKind cX7_isKind 1 (some .boolean) :: zw_tb) RX7 := S
  have hx := S.1
  have hb := S.2.1
  have hK := hX.2.1
  have hl : lv_has ls 1 [(0, .int a1)] := hl
  unfold fX7_isKind at h
  refine lv_iload_n hx hb dX7_isKind_0 rfl (lv_at hl 0 rfl) ?_
  refine lv_iconst (v := 0) hx hb dX7_isKind_1 (by decide) ?_
  refine lv_iconst (v := 5) hx hb dX7_isKind_2 (by decide) ?_
  obtain ⟨x10001, w10002, ew10002, h⟩ := zbd2E h
  refine zr_i (zr_runS (As := [.int a1, .int 0, .int 5]) S hX hE (kX7_within l D tc lo ad fr zq a1 0 5 w x10001 w10002 ew10002) zyX7_within qm_X7_61 ⟨rfl, rfl⟩ ⟨Nat.le_of_ble_eq_true rfl, Nat.le_of_ble_eq_true rfl⟩ rfl hl.1 rfl (Nat.le_of_ble_eq_true rfl) dX7_isKind_3 ⟨Nat.zero_le _, Nat.zero_le _⟩) hE (fun H locs hE => ?_)
  obtain ⟨x10003, ex10003, h⟩ := zbdE h
  obtain ⟨ezx10003, enx10003⟩ := zboo_in ex10003
  refine zr_topi (congrArg some ezx10003) ?_
  exact zr_zret S hE hr hlk enx10003 h dX7_isKind_6
set_option maxHeartbeats 4000000 in
set_option maxRecDepth 100000 in
theorem kX0_isUnder (l : Launch) (D : va_G) (tc : Nat → ClassId) (lo : Nat) (ad : Nat → Nat) (fr : va_W) (zq : zz_Q) (a1 : Int32) (a2 : Int32) (w : zz_W) (r : Int32) (w_ : zz_W) (h : fX0_isUnder a1 a2 w = some (r, w_)) : zMi l yX0_isUnder cX0_isUnder 4 (some .boolean) { frames := 2, cells := 0, slots := 0, locals := 42 } D tc lo ad zshC znnC fr zq [.int a1, .int a2] w r w_ := by
  refine zr_entry (by decide) (Nat.le_of_ble_eq_true rfl) fun p e s m args below meth c ls S hX hr hlk hE hl => ?_
  have S : CallFix p m c cX0_isUnder 4 s args (Cond.code yX0_isUnder cX0_isUnder 4 (some .boolean) :: zw_tb) RX0 := S
  have hx := S.1
  have hb := S.2.1
  have hK := hX.2.1
  have hl : lv_has ls 4 [(0, .int a1), (1, .int a2)] := hl
  unfold fX0_isUnder at h
  have L4 : ∀ (n : Nat) (l1 : Int32) (l2 : Int32) (l3 : Int32) (w : zz_W) (ls : Array Slot) (H : Heap) (locs : List Loc), fX0_isUnder_4 a1 a2 n l1 l2 l3 w = some (r, w_) → lv_has ls 4 [(1, .int l1), (2, .int l2), (3, .int l3)] → zE D tc lo ad zshC znnC fr w s.heap H locs → W p l e { frames := 2, cells := 0, slots := 0, locals := 42 } s m args below meth c H locs 0 0 (zZi D tc lo ad zshC znnC fr below args s r w_) (F0 m 4 ls []) := by
    intro n4
    induction n4 with
    | zero => intro l1 l2 l3 w ls H locs h hl hE; rw [fX0_isUnder_4] at h; cases h
    | succ n4 ih4 =>
      intro l1 l2 l3 w ls H locs h hl hE
      rw [fX0_isUnder_4] at h
      refine lv_iload_n hx hb dX0_isUnder_4 rfl (lv_at hl 2 rfl) ?_
      refine lv_bipush (v := 6) hx hb dX0_isUnder_5 (by decide) ?_
      refine lv_icmp_ge (tgt := 36) hx hb dX0_isUnder_7 (by decide) (fun c15 => ?_) (fun c15 => ?_)
      · have h := zif c15 h
        refine lv_iconst (v := 0) hx hb dX0_isUnder_36 (by decide) ?_
        exact zr_zret S hE hr hlk (by decide) h dX0_isUnder_37
      · have h := zif' c15 h
        refine lv_iload_n hx hb dX0_isUnder_10 rfl (lv_at hl 1 rfl) ?_
        obtain ⟨x16, w17, ew17, h⟩ := zbd2E h
        refine zr_i (zr_runSN (As := [.int l2]) S hX hE (kX7_isKind l D tc lo ad fr zq l2 w x16 w17 ew17) zyX7_isKind qn_X0_9 ⟨rfl, rfl⟩ ⟨Nat.le_of_ble_eq_true rfl, Nat.le_of_ble_eq_true rfl⟩ rfl hl.1 rfl (Nat.le_of_ble_eq_true rfl) dX0_isUnder_11 ⟨Nat.zero_le _, Nat.zero_le _⟩) hE (fun H locs hE => ?_)
        refine lv_if_eq (tgt := 36) hx hb dX0_isUnder_14 (by decide) (fun c18 => ?_) (fun c18 => ?_)
        · have h := zif c18 h
          refine lv_iconst (v := 0) hx hb dX0_isUnder_36 (by decide) ?_
          exact zr_zret S hE hr hlk (by decide) h dX0_isUnder_37
        · have h := zif' c18 h
          refine lv_iload_n hx hb dX0_isUnder_17 rfl (lv_at hl 1 rfl) ?_
          refine lv_iload_n hx hb dX0_isUnder_18 rfl (lv_at hl 0 rfl) ?_
          refine lv_icmp_ne (tgt := 24) hx hb dX0_isUnder_19 (by decide) (fun c19 => ?_) (fun c19 => ?_)
          · have h := zif' c19 h
            refine zr_sABOVE S hX hE qf_X0_13 dX0_isUnder_24 ?_
            refine lv_iload_n hx hb dX0_isUnder_27 rfl (lv_at hl 1 rfl) ?_
            obtain ⟨x20, ex20, h⟩ := zbdE h
            refine zr_tABOVE S hX hE dX0_isUnder_28 ex20 ?_
            refine lv_istore_n (lv' := [(2, .int x20), (1, .int l1), (3, .int l3)]) hx hb dX0_isUnder_29 rfl hl (by decide) rfl (fun ls hl => ?_)
            obtain ⟨x21, ex21, h⟩ := zbdE h
            refine lv_iinc (v := x21) (lv' := [(3, .int x21), (2, .int x20), (1, .int l1)]) hx hb dX0_isUnder_30 hl (k := 2) rfl (zinc (k := 1) (by decide) ex21) (by decide) rfl (fun ls hl => ?_)
            refine lv_goto (tgt := 4) hx hb dX0_isUnder_33 (by decide) ?_
            exact ih4 l1 x20 x21 w17 ls _ _ h (lv_sub hl [2, 1, 0] rfl) hE
          · have h := zif c19 h
            refine lv_iconst (v := 1) hx hb dX0_isUnder_22 (by decide) ?_
            exact zr_zret S hE hr hlk (by decide) h dX0_isUnder_23
  refine lv_iload_n hx hb dX0_isUnder_0 rfl (lv_at hl 0 rfl) ?_
  refine lv_istore_n (lv' := [(2, .int a1), (0, .int a1), (1, .int a2)]) hx hb dX0_isUnder_1 rfl hl (by decide) rfl (fun ls hl => ?_)
  refine lv_iconst (v := 0) hx hb dX0_isUnder_2 (by decide) ?_
  refine lv_istore_n (lv' := [(3, .int 0), (2, .int a1), (0, .int a1), (1, .int a2)]) hx hb dX0_isUnder_3 rfl hl (by decide) rfl (fun ls hl => ?_)
  exact L4 zfuel a2 a1 0 w ls _ _ h (lv_sub hl [3, 1, 0] rfl) hE
set_option maxHeartbeats 4000000 in
set_option maxRecDepth 100000 in
theorem kX0_worthOf (l : Launch) (D : va_G) (tc : Nat → ClassId) (lo : Nat) (ad : Nat → Nat) (fr : va_W) (zq : zz_Q) (a1 : Int32) (a2 : Int32) (w : zz_W) (r : Int32) (w_ : zz_W) (h : fX0_worthOf a1 a2 w = some (r, w_)) : zMi l yX0_worthOf cX0_worthOf 2 (some .int) { frames := 0, cells := 0, slots := 0, locals := 0 } D tc lo ad zshC znnC fr zq [.int a1, .int a2] w r w_ := by
  refine zr_entry (by decide) (Nat.le_of_ble_eq_true rfl) fun p e s m args below meth c ls S hX hr hlk hE hl => ?_
  have S : CallFix p m c cX0_worthOf 2 s args (Cond.code yX0_worthOf cX0_worthOf 2 (some .int) :: zw_tb) RX0 := S
  have hx := S.1
  have hb := S.2.1
  have hK := hX.2.1
  have hl : lv_has ls 2 [(0, .int a1), (1, .int a2)] := hl
  unfold fX0_worthOf at h
  refine lv_iload_n hx hb dX0_worthOf_0 rfl (lv_at hl 0 rfl) ?_
  by_cases c10001 : a1 = 1
  · refine lv_tableIn (off := 35) (tgt := 36) hx hb dX0_worthOf_1 (by rw [c10001]; decide) (by rw [c10001]; decide) (by rw [c10001]; decide) (by decide) ?_
    have h := zif c10001 h
    refine lv_iload_n hx hb dX0_worthOf_36 rfl (lv_at hl 1 rfl) ?_
    refine lv_bipush (v := 9) hx hb dX0_worthOf_37 (by decide) ?_
    refine lv_iadd hx hb dX0_worthOf_39 ?_
    exact zr_iret S hE hr hlk h dX0_worthOf_40
  have h := zif' c10001 h
  by_cases c10002 : a1 = 2
  · refine lv_tableIn (off := 47) (tgt := 48) hx hb dX0_worthOf_1 (by rw [c10002]; decide) (by rw [c10002]; decide) (by rw [c10002]; decide) (by decide) ?_
    have h := zif c10002 h
    refine lv_bipush (v := 99) hx hb dX0_worthOf_48 (by decide) ?_
    refine lv_iload_n hx hb dX0_worthOf_50 rfl (lv_at hl 1 rfl) ?_
    refine lv_isub hx hb dX0_worthOf_51 ?_
    exact zr_iret S hE hr hlk h dX0_worthOf_52
  have h := zif' c10002 h
  by_cases c10003 : a1 = 3
  · refine lv_tableIn (off := 40) (tgt := 41) hx hb dX0_worthOf_1 (by rw [c10003]; decide) (by rw [c10003]; decide) (by rw [c10003]; decide) (by decide) ?_
    have h := zif c10003 h
    refine lv_iconst (v := 2) hx hb dX0_worthOf_41 (by decide) ?_
    refine lv_iload_n hx hb dX0_worthOf_42 rfl (lv_at hl 1 rfl) ?_
    refine lv_bipush (v := 9) hx hb dX0_worthOf_43 (by decide) ?_
    refine lv_iadd hx hb dX0_worthOf_45 ?_
    refine lv_imul hx hb dX0_worthOf_46 ?_
    exact zr_iret S hE hr hlk h dX0_worthOf_47
  have h := zif' c10003 h
  by_cases c10004 : a1 = 4
  · refine lv_tableIn (off := 52) (tgt := 53) hx hb dX0_worthOf_1 (by rw [c10004]; decide) (by rw [c10004]; decide) (by rw [c10004]; decide) (by decide) ?_
    have h := zif c10004 h
    refine lv_bipush (v := 94) hx hb dX0_worthOf_53 (by decide) ?_
    refine lv_iload_n hx hb dX0_worthOf_55 rfl (lv_at hl 1 rfl) ?_
    refine lv_isub hx hb dX0_worthOf_56 ?_
    exact zr_iret S hE hr hlk h dX0_worthOf_57
  have h := zif' c10004 h
  by_cases c10005 : a1 = 5
  · refine lv_tableIn (off := 57) (tgt := 58) hx hb dX0_worthOf_1 (by rw [c10005]; decide) (by rw [c10005]; decide) (by rw [c10005]; decide) (by decide) ?_
    have h := zif c10005 h
    refine lv_iconst (v := 2) hx hb dX0_worthOf_58 (by decide) ?_
    exact zr_iret S hE hr hlk h dX0_worthOf_59
  have h := zif' c10005 h
  refine lv_tableOut (tgt := 60) hx hb dX0_worthOf_1 (by have tc10001 := lv_neT c10001 (a := 1) (by decide); have tc10002 := lv_neT c10002 (a := 2) (by decide); have tc10003 := lv_neT c10003 (a := 3) (by decide); have tc10004 := lv_neT c10004 (a := 4) (by decide); have tc10005 := lv_neT c10005 (a := 5) (by decide); omega) (by decide) ?_
  refine lv_iload_n hx hb dX0_worthOf_60 rfl (lv_at hl 1 rfl) ?_
  exact zr_iret S hE hr hlk h dX0_worthOf_61
set_option maxHeartbeats 4000000 in
set_option maxRecDepth 100000 in
theorem kX1_bestCell (l : Launch) (D : va_G) (tc : Nat → ClassId) (lo : Nat) (ad : Nat → Nat) (fr : va_W) (zq : zz_Q) (w : zz_W) (r : Int32) (w_ : zz_W) (h : fX1_bestCell w = some (r, w_)) : zMi l yX1_bestCell cX1_bestCell 1 (some .int) { frames := 0, cells := 0, slots := 0, locals := 0 } D tc lo ad zshC znnC fr zq [.ref (ad 31)] w r w_ := by
  refine zr_entry (by decide) (Nat.le_of_ble_eq_true rfl) fun p e s m args below meth c ls S hX hr hlk hE hl => ?_
  have S : CallFix p m c cX1_bestCell 1 s args (Cond.code yX1_bestCell cX1_bestCell 1 (some .int) :: zw_tb) RX1 := S
  have hx := S.1
  have hb := S.2.1
  have hK := hX.2.1
  have hl : lv_has ls 1 [(0, .ref (ad 31))] := hl
  unfold fX1_bestCell at h
  refine lv_aload_n hx hb dX1_bestCell_0 rfl (lv_at hl 0 rfl) ?_
  refine zr_getA S hK hE zcl_X1 (zc_31 w) 4 (Nat.le_of_ble_eq_true rfl) (q := 32) rfl qf_X1_9 dX1_bestCell_1 ?_
  refine lv_aload_n hx hb dX1_bestCell_4 rfl (lv_at hl 0 rfl) ?_
  obtain ⟨x10001, ex10001, h⟩ := zbdE h
  refine zr_getI S hK hE zcl_X1 (zc_31 w) 9 (Nat.le_of_ble_eq_true rfl) rfl qf_X1_58 dX1_bestCell_5 ex10001 ?_
  obtain ⟨x10002, ex10002, h⟩ := zbdE h
  refine zr_iald S hK hE (zc_32 w) dX1_bestCell_8 ex10002 ?_
  exact zr_iret S hE hr hlk h dX1_bestCell_9
set_option maxHeartbeats 4000000 in
set_option maxRecDepth 100000 in
theorem kX1_leastLoss (l : Launch) (D : va_G) (tc : Nat → ClassId) (lo : Nat) (ad : Nat → Nat) (fr : va_W) (zq : zz_Q) (w : zz_W) (r : Int64) (w_ : zz_W) (h : fX1_leastLoss w = some (r, w_)) : zMl l yX1_leastLoss cX1_leastLoss 1 (some .long) { frames := 0, cells := 0, slots := 0, locals := 0 } D tc lo ad zshC znnC fr zq [.ref (ad 31)] w r w_ := by
  refine zr_entry (by decide) (Nat.le_of_ble_eq_true rfl) fun p e s m args below meth c ls S hX hr hlk hE hl => ?_
  have S : CallFix p m c cX1_leastLoss 1 s args (Cond.code yX1_leastLoss cX1_leastLoss 1 (some .long) :: zw_tb) RX1 := S
  have hx := S.1
  have hb := S.2.1
  have hK := hX.2.1
  have hl : lv_has ls 1 [(0, .ref (ad 31))] := hl
  unfold fX1_leastLoss at h
  refine lv_aload_n hx hb dX1_leastLoss_0 rfl (lv_at hl 0 rfl) ?_
  refine zr_getA S hK hE zcl_X1 (zc_31 w) 5 (Nat.le_of_ble_eq_true rfl) (q := 33) rfl qf_X1_15 dX1_leastLoss_1 ?_
  refine lv_aload_n hx hb dX1_leastLoss_4 rfl (lv_at hl 0 rfl) ?_
  obtain ⟨x10001, ex10001, h⟩ := zbdE h
  refine zr_getI S hK hE zcl_X1 (zc_31 w) 9 (Nat.le_of_ble_eq_true rfl) rfl qf_X1_58 dX1_leastLoss_5 ex10001 ?_
  obtain ⟨x10002, ex10002, h⟩ := zbdE h
  refine zr_lald S hK hE (zc_33 w) dX1_leastLoss_8 ex10002 ?_
  exact zr_lret S hE hr hlk h dX1_leastLoss_9
set_option maxHeartbeats 4000000 in
set_option maxRecDepth 100000 in
theorem kX1_lossOf (l : Launch) (D : va_G) (tc : Nat → ClassId) (lo : Nat) (ad : Nat → Nat) (fr : va_W) (zq : zz_Q) (a1 : Nat) (a2 : Nat) (a3 : Int32) (w : zz_W) (r : Int64) (w_ : zz_W) (h : fX1_lossOf a1 a2 a3 w = some (r, w_)) : zMl l yX1_lossOf cX1_lossOf 6 (some .long) { frames := 1, cells := 0, slots := 0, locals := 22 } D tc lo ad zshC znnC fr zq [.ref (ad a1), .ref (ad a2), .int a3] w r w_ := by
  refine zr_entry (by decide) (Nat.le_of_ble_eq_true rfl) fun p e s m args below meth c ls S hX hr hlk hE hl => ?_
  have S : CallFix p m c cX1_lossOf 6 s args (Cond.code yX1_lossOf cX1_lossOf 6 (some .long) :: zw_tb) RX1 := S
  have hx := S.1
  have hb := S.2.1
  have hK := hX.2.1
  have hl : lv_has ls 6 [(0, .ref (ad a1)), (1, .ref (ad a2)), (2, .int a3)] := hl
  unfold fX1_lossOf at h
  obtain ⟨hga1, h⟩ := zgrdE h
  obtain ⟨hga2, h⟩ := zgrdE h
  have L5 : ∀ (n : Nat) (l2 : Int32) (l3 : Int64) (l5 : Int32) (w : zz_W) (ls : Array Slot) (H : Heap) (locs : List Loc), fX1_lossOf_5 a1 a2 a3 n l2 l3 l5 w = some (r, w_) → lv_has ls 6 [(0, .ref (ad a1)), (1, .ref (ad a2)), (2, .int l2), (3, .long l3), (5, .int l5)] → zE D tc lo ad zshC znnC fr w s.heap H locs → W p l e { frames := 1, cells := 0, slots := 0, locals := 22 } s m args below meth c H locs 0 0 (zZl D tc lo ad zshC znnC fr below args s r w_) (F0 m 5 ls []) := by
    intro n5
    induction n5 with
    | zero => intro l2 l3 l5 w ls H locs h hl hE; rw [fX1_lossOf_5] at h; cases h
    | succ n5 ih5 =>
      intro l2 l3 l5 w ls H locs h hl hE
      rw [fX1_lossOf_5] at h
      refine lv_iload hx hb dX1_lossOf_5 (lv_at hl 4 rfl) ?_
      refine lv_aload_n hx hb dX1_lossOf_7 rfl (lv_at hl 0 rfl) ?_
      obtain ⟨x21, ex21, h⟩ := zbdE h
      refine zr_getI S hK hE zcl_X6 (zcW0 hga1 w) 9 (Nat.le_of_ble_eq_true rfl) rfl qf_X1_51 dX1_lossOf_8 ex21 ?_
      refine lv_icmp_ge (tgt := 41) hx hb dX1_lossOf_11 (by decide) (fun c22 => ?_) (fun c22 => ?_)
      · have h := zif c22 h
        refine lv_lload_n hx hb dX1_lossOf_41 rfl (lv_at hl 3 rfl) ?_
        exact zr_lret S hE hr hlk h dX1_lossOf_42
      · have h := zif' c22 h
        refine lv_aload_n hx hb dX1_lossOf_14 rfl (lv_at hl 0 rfl) ?_
        refine zr_getA S hK hE zcl_X6 (zcW0 hga1 w) 5 (Nat.le_of_ble_eq_true rfl) (q := a1 + 6) rfl qf_X1_103 dX1_lossOf_15 ?_
        refine lv_iload hx hb dX1_lossOf_18 (lv_at hl 4 rfl) ?_
        obtain ⟨x23, ex23, h⟩ := zbdE h
        refine zr_lald S hK hE (zcW6 hga1 w) dX1_lossOf_20 ex23 ?_
        refine lv_iload_n hx hb dX1_lossOf_21 rfl (lv_at hl 2 rfl) ?_
        obtain ⟨x24, w25, ew25, h⟩ := zbd2E h
        refine zr_i (zr_runS (As := [.long x23, .int l2]) S hX hE (kX0_has l D tc lo ad fr zq x23 l2 w x24 w25 ew25) zyX0_has qm_X1_106 ⟨rfl, rfl⟩ ⟨Nat.le_of_ble_eq_true rfl, Nat.le_of_ble_eq_true rfl⟩ rfl hl.1 rfl (Nat.le_of_ble_eq_true rfl) dX1_lossOf_22 ⟨Nat.zero_le _, Nat.zero_le _⟩) hE (fun H locs hE => ?_)
        refine lv_if_eq (tgt := 35) hx hb dX1_lossOf_25 (by decide) (fun c26 => ?_) (fun c26 => ?_)
        · have h := zif c26 h
          obtain ⟨x27, ex27, h⟩ := zbdE h
          refine lv_iinc (v := x27) (lv' := [(5, .int x27), (0, .ref (ad a1)), (1, .ref (ad a2)), (2, .int l2), (3, .long l3)]) hx hb dX1_lossOf_35 hl (k := 4) rfl (zinc (k := 1) (by decide) ex27) (by decide) rfl (fun ls hl => ?_)
          refine lv_goto (tgt := 5) hx hb dX1_lossOf_38 (by decide) ?_
          exact ih5 l2 l3 x27 w25 ls _ _ h (lv_sub hl [1, 2, 3, 4, 0] rfl) hE
        · have h := zif' c26 h
          refine lv_lload_n hx hb dX1_lossOf_28 rfl (lv_at hl 3 rfl) ?_
          refine lv_aload_n hx hb dX1_lossOf_29 rfl (lv_at hl 1 rfl) ?_
          refine lv_iload hx hb dX1_lossOf_30 (lv_at hl 4 rfl) ?_
          obtain ⟨x28, ex28, h⟩ := zbdE h
          refine zr_lald S hK hE (zc_X hga2 w25) dX1_lossOf_32 ex28 ?_
          refine lv_ladd hx hb dX1_lossOf_33 ?_
          obtain ⟨x29, ex29, h⟩ := zbdE h
          refine zr_topl ex29 ?_
          refine lv_lstore_n (lv' := [(3, .long x29), (0, .ref (ad a1)), (1, .ref (ad a2)), (2, .int l2), (5, .int l5)]) hx hb dX1_lossOf_34 rfl hl (by decide) rfl (fun ls hl => ?_)
          obtain ⟨x30, ex30, h⟩ := zbdE h
          refine lv_iinc (v := x30) (lv' := [(5, .int x30), (3, .long x29), (0, .ref (ad a1)), (1, .ref (ad a2)), (2, .int l2)]) hx hb dX1_lossOf_35 hl (k := 4) rfl (zinc (k := 1) (by decide) ex30) (by decide) rfl (fun ls hl => ?_)
          refine lv_goto (tgt := 5) hx hb dX1_lossOf_38 (by decide) ?_
          exact ih5 l2 x29 x30 w25 ls _ _ h (lv_sub hl [2, 3, 4, 1, 0] rfl) hE
  refine lv_lconst (v := 0) hx hb dX1_lossOf_0 (by decide) ?_
  refine lv_lstore_n (lv' := [(3, .long 0), (0, .ref (ad a1)), (1, .ref (ad a2)), (2, .int a3)]) hx hb dX1_lossOf_1 rfl hl (by decide) rfl (fun ls hl => ?_)
  refine lv_iconst (v := 0) hx hb dX1_lossOf_2 (by decide) ?_
  refine lv_istore (lv' := [(5, .int 0), (3, .long 0), (0, .ref (ad a1)), (1, .ref (ad a2)), (2, .int a3)]) hx hb dX1_lossOf_3 hl (by decide) rfl (fun ls hl => ?_)
  exact L5 zfuel a3 0 0 w ls _ _ h (lv_sub hl [2, 3, 4, 1, 0] rfl) hE
set_option maxHeartbeats 4000000 in
set_option maxRecDepth 100000 in
theorem kX6_ofHundred (l : Launch) (D : va_G) (tc : Nat → ClassId) (lo : Nat) (ad : Nat → Nat) (fr : va_W) (zq : zz_Q) (b : Nat) (a1 : Int32) (a2 : Int32) (w : zz_W) (r : Int32) (w_ : zz_W) (h : fX6_ofHundred b a1 a2 w = some (r, w_)) : zMi l yX6_ofHundred cX6_ofHundred 4 (some .int) { frames := 0, cells := 0, slots := 0, locals := 0 } D tc lo ad zshC znnC fr zq [.ref (ad b), .int a1, .int a2] w r w_ := by
  refine zr_entry (by decide) (Nat.le_of_ble_eq_true rfl) fun p e s m args below meth c ls S hX hr hlk hE hl => ?_
  have S : CallFix p m c cX6_ofHundred 4 s args (Cond.code yX6_ofHundred cX6_ofHundred 4 (some .int) :: zw_tb) RX6 := S
  have hx := S.1
  have hb := S.2.1
  have hK := hX.2.1
  have hl : lv_has ls 4 [(0, .ref (ad b)), (1, .int a1), (2, .int a2)] := hl
  unfold fX6_ofHundred at h
  obtain ⟨hgb, h⟩ := zgrdE h
  have J13 : ∀ (l2 : Int32) (s0 : Int32) (w : zz_W) (ls : Array Slot) (H : Heap) (locs : List Loc), fX6_ofHundred_13 b a1 a2 l2 s0 w = some (r, w_) → lv_has ls 4 [(2, .int l2)] → zE D tc lo ad zshC znnC fr w s.heap H locs → W p l e { frames := 0, cells := 0, slots := 0, locals := 0 } s m args below meth c H locs 0 0 (zZi D tc lo ad zshC znnC fr below args s r w_) (F0 m 13 ls [.int s0]) := by
    intro l2 s0 w ls H locs h hl hE
    unfold fX6_ofHundred_13 at h
    refine lv_istore_n (lv' := [(3, .int s0), (2, .int l2)]) hx hb dX6_ofHundred_13 rfl hl (by decide) rfl (fun ls hl => ?_)
    refine lv_iload_n hx hb dX6_ofHundred_14 rfl (lv_at hl 1 rfl) ?_
    refine lv_if_eq (tgt := 25) hx hb dX6_ofHundred_15 (by decide) (fun c7 => ?_) (fun c7 => ?_)
    · have h := zif c7 h
      refine lv_iload_n hx hb dX6_ofHundred_25 rfl (lv_at hl 0 rfl) ?_
      exact zr_iret S hE hr hlk h dX6_ofHundred_26
    · have h := zif' c7 h
      refine lv_bipush (v := 100) hx hb dX6_ofHundred_18 (by decide) ?_
      refine lv_iload_n hx hb dX6_ofHundred_20 rfl (lv_at hl 0 rfl) ?_
      refine lv_isub hx hb dX6_ofHundred_21 ?_
      refine lv_goto (tgt := 26) hx hb dX6_ofHundred_22 (by decide) ?_
      exact zr_iret S hE hr hlk h dX6_ofHundred_26
  refine lv_iload_n hx hb dX6_ofHundred_0 rfl (lv_at hl 1 rfl) ?_
  refine lv_iconst (v := 3) hx hb dX6_ofHundred_1 (by decide) ?_
  refine lv_icmp_ne (tgt := 9) hx hb dX6_ofHundred_2 (by decide) (fun c10001 => ?_) (fun c10001 => ?_)
  · have h := zif' c10001 h
    refine lv_aload_n hx hb dX6_ofHundred_9 rfl (lv_at hl 0 rfl) ?_
    obtain ⟨x10002, ex10002, h⟩ := zbdE h
    refine zr_getI S hK hE zcl_X6 (zcW0 hgb w) 11 (Nat.le_of_ble_eq_true rfl) rfl qf_X6_47 dX6_ofHundred_10 ex10002 ?_
    exact J13 a2 x10002 w ls _ _ h (lv_sub hl [2] rfl) hE
  · have h := zif c10001 h
    refine lv_iconst (v := 0) hx hb dX6_ofHundred_5 (by decide) ?_
    refine lv_goto (tgt := 13) hx hb dX6_ofHundred_6 (by decide) ?_
    exact J13 a2 0 w ls _ _ h (lv_sub hl [2] rfl) hE
set_option maxHeartbeats 4000000 in
set_option maxRecDepth 100000 in
theorem kX6_wouldTell (l : Launch) (D : va_G) (tc : Nat → ClassId) (lo : Nat) (ad : Nat → Nat) (fr : va_W) (zq : zz_Q) (b : Nat) (a1 : Int32) (a2 : Int32) (a3 : Int32) (w : zz_W) (r : Int32) (w_ : zz_W) (h : fX6_wouldTell b a1 a2 a3 w = some (r, w_)) : zMi l yX6_wouldTell cX6_wouldTell 4 (some .int) { frames := 1, cells := 0, slots := 0, locals := 25 } D tc lo ad zshC znnC fr zq [.ref (ad b), .int a1, .int a2, .int a3] w r w_ := by
  refine zr_entry (by decide) (Nat.le_of_ble_eq_true rfl) fun p e s m args below meth c ls S hX hr hlk hE hl => ?_
  have S : CallFix p m c cX6_wouldTell 4 s args (Cond.code yX6_wouldTell cX6_wouldTell 4 (some .int) :: zw_tb) RX6 := S
  have hx := S.1
  have hb := S.2.1
  have hK := hX.2.1
  have hl : lv_has ls 4 [(0, .ref (ad b)), (1, .int a1), (2, .int a2), (3, .int a3)] := hl
  unfold fX6_wouldTell at h
  obtain ⟨hgb, h⟩ := zgrdE h
  refine lv_aload_n hx hb dX6_wouldTell_0 rfl (lv_at hl 0 rfl) ?_
  refine zr_getA S hK hE zcl_X6 (zcW0 hgb w) 0 (Nat.le_of_ble_eq_true rfl) (q := b + 1) rfl qf_X6_9 dX6_wouldTell_1 ?_
  refine lv_iload_n hx hb dX6_wouldTell_4 rfl (lv_at hl 1 rfl) ?_
  obtain ⟨x10001, ex10001, h⟩ := zbdE h
  refine zr_iald S hK hE (zcW1 hgb w) dX6_wouldTell_5 ex10001 ?_
  refine lv_aload_n hx hb dX6_wouldTell_6 rfl (lv_at hl 0 rfl) ?_
  refine zr_getA S hK hE zcl_X6 (zcW0 hgb w) 3 (Nat.le_of_ble_eq_true rfl) (q := b + 4) rfl qf_X6_21 dX6_wouldTell_7 ?_
  refine lv_iload_n hx hb dX6_wouldTell_10 rfl (lv_at hl 1 rfl) ?_
  obtain ⟨x10002, ex10002, h⟩ := zbdE h
  refine zr_iald S hK hE (zcW4 hgb w) dX6_wouldTell_11 ex10002 ?_
  refine lv_iload_n hx hb dX6_wouldTell_12 rfl (lv_at hl 2 rfl) ?_
  refine lv_aload_n hx hb dX6_wouldTell_13 rfl (lv_at hl 0 rfl) ?_
  refine zr_getA S hK hE zcl_X6 (zcW0 hgb w) 5 (Nat.le_of_ble_eq_true rfl) (q := b + 6) rfl qf_X6_27 dX6_wouldTell_14 ?_
  refine lv_iload_n hx hb dX6_wouldTell_17 rfl (lv_at hl 1 rfl) ?_
  obtain ⟨x10003, ex10003, h⟩ := zbdE h
  refine zr_lald S hK hE (zcW6 hgb w) dX6_wouldTell_18 ex10003 ?_
  obtain ⟨x10004, w10005, ew10005, h⟩ := zbd2E h
  refine zr_l (zr_runS (As := [.int x10001, .int x10002, .int a2, .long x10003]) S hX hE (kX0_cellsTold l D tc lo ad fr zq x10001 x10002 a2 x10003 w x10004 w10005 ew10005) zyX0_cellsTold qm_X6_98 ⟨rfl, rfl⟩ ⟨Nat.le_of_ble_eq_true rfl, Nat.le_of_ble_eq_true rfl⟩ rfl hl.1 rfl (Nat.le_of_ble_eq_true rfl) dX6_wouldTell_19 ⟨Nat.zero_le _, Nat.zero_le _⟩) hE (fun H locs hE => ?_)
  refine lv_iload_n hx hb dX6_wouldTell_22 rfl (lv_at hl 3 rfl) ?_
  obtain ⟨x10006, w10007, ew10007, h⟩ := zbd2E h
  refine zr_i (zr_runS (As := [.long x10004, .int a3]) S hX hE (kX0_has l D tc lo ad fr zq x10004 a3 w10005 x10006 w10007 ew10007) zyX0_has qm_X6_102 ⟨rfl, rfl⟩ ⟨Nat.le_of_ble_eq_true rfl, Nat.le_of_ble_eq_true rfl⟩ rfl hl.1 rfl (Nat.le_of_ble_eq_true rfl) dX6_wouldTell_23 ⟨Nat.zero_le _, Nat.zero_le _⟩) hE (fun H locs hE => ?_)
  refine lv_if_eq (tgt := 33) hx hb dX6_wouldTell_26 (by decide) (fun c10008 => ?_) (fun c10008 => ?_)
  · have h := zif c10008 h
    refine lv_iconst (v := 0) hx hb dX6_wouldTell_33 (by decide) ?_
    exact zr_iret S hE hr hlk h dX6_wouldTell_34
  · have h := zif' c10008 h
    refine lv_iconst (v := 1) hx hb dX6_wouldTell_29 (by decide) ?_
    refine lv_goto (tgt := 34) hx hb dX6_wouldTell_30 (by decide) ?_
    exact zr_iret S hE hr hlk h dX6_wouldTell_34
set_option maxHeartbeats 4000000 in
set_option maxRecDepth 100000 in
theorem kX1_shareOut (l : Launch) (D : va_G) (tc : Nat → ClassId) (lo : Nat) (ad : Nat → Nat) (fr : va_W) (zq : zz_Q) (a1 : Nat) (a2 : Int32) (a3 : Int32) (w : zz_W) (r : Int32) (w_ : zz_W) (h : fX1_shareOut a1 a2 a3 w = some (r, w_)) : zMi l yX1_shareOut cX1_shareOut 7 (some .boolean) { frames := 2, cells := 0, slots := 0, locals := 48 } D tc lo ad zshC znnC fr zq [.ref (ad 31), .ref (ad a1), .int a2, .int a3] w r w_ := by
  refine zr_entry (by decide) (Nat.le_of_ble_eq_true rfl) fun p e s m args below meth c ls S hX hr hlk hE hl => ?_
  have S : CallFix p m c cX1_shareOut 7 s args (Cond.code yX1_shareOut cX1_shareOut 7 (some .boolean) :: zw_tb) RX1 := S
  have hx := S.1
  have hb := S.2.1
  have hK := hX.2.1
  have hl : lv_has ls 7 [(0, .ref (ad 31)), (1, .ref (ad a1)), (2, .int a2), (3, .int a3)] := hl
  unfold fX1_shareOut at h
  obtain ⟨hga1, h⟩ := zgrdE h
  have L6 : ∀ (n : Nat) (l2 : Int32) (l3 : Int32) (l4 : Int32) (l5 : Int32) (w : zz_W) (ls : Array Slot) (H : Heap) (locs : List Loc), fX1_shareOut_6 a1 a2 a3 n l2 l3 l4 l5 w = some (r, w_) → lv_has ls 7 [(0, .ref (ad 31)), (1, .ref (ad a1)), (2, .int l2), (3, .int l3), (4, .int l4), (5, .int l5)] → zE D tc lo ad zshC znnC fr w s.heap H locs → W p l e { frames := 2, cells := 0, slots := 0, locals := 48 } s m args below meth c H locs 0 0 (zZi D tc lo ad zshC znnC fr below args s r w_) (F0 m 6 ls []) := by
    intro n6
    induction n6 with
    | zero => intro l2 l3 l4 l5 w ls H locs h hl hE; rw [fX1_shareOut_6] at h; cases h
    | succ n6 ih6 =>
      intro l2 l3 l4 l5 w ls H locs h hl hE
      rw [fX1_shareOut_6] at h
      have J58 : ∀ (l2 : Int32) (l3 : Int32) (l4 : Int32) (l5 : Int32) (s1 : Int32) (s2 : Int64) (s4 : Int32) (s5 : Int32) (w : zz_W) (ls : Array Slot) (H : Heap) (locs : List Loc), fX1_shareOut_58 a1 a2 a3 (fX1_shareOut_6 a1 a2 a3 n6) l2 l3 l4 l5 s1 s2 s4 s5 w = some (r, w_) → lv_has ls 7 [(0, .ref (ad 31)), (1, .ref (ad a1)), (2, .int l2), (3, .int l3), (4, .int l4), (5, .int l5)] → zE D tc lo ad zshC znnC fr w s.heap H locs → W p l e { frames := 2, cells := 0, slots := 0, locals := 48 } s m args below meth c H locs 0 0 (zZi D tc lo ad zshC znnC fr below args s r w_) (F0 m 58 ls [.int s5, .int s4, .ref (ad a1), .long s2, .int s1, .ref (ad 35)]) := by
        intro l2 l3 l4 l5 s1 s2 s4 s5 w ls H locs h hl hE
        unfold fX1_shareOut_58 at h
        obtain ⟨x29, w30, ew30, h⟩ := zbd2E h
        refine zr_i (zr_runV (As := [.int s4, .int s5]) S hX hE (kX6_ofHundred l D tc lo ad fr zq a1 s4 s5 w x29 w30 ew30) zyX6_ofHundred qm_X1_86 zcl_X6 rfl (zcW0 hga1 w) ⟨rfl, rfl⟩ ⟨Nat.le_of_ble_eq_true rfl, Nat.le_of_ble_eq_true rfl⟩ rfl hl.1 rfl (Nat.le_of_ble_eq_true rfl) dX1_shareOut_58 ⟨Nat.zero_le _, Nat.zero_le _⟩) hE (fun H locs hE => ?_)
        refine lv_i2l hx hb dX1_shareOut_61 rfl ?_
        refine lv_lmul hx hb dX1_shareOut_62 ?_
        obtain ⟨w31, ew31, h⟩ := zbdE h
        refine zr_last S hK hE (zc_35 w30) dX1_shareOut_63 ew31 (fun H locs hE => ?_)
        obtain ⟨x32, ex32, h⟩ := zbdE h
        refine lv_iinc (v := x32) (lv' := [(5, .int x32), (0, .ref (ad 31)), (1, .ref (ad a1)), (2, .int l2), (3, .int l3), (4, .int l4)]) hx hb dX1_shareOut_64 hl (k := 5) rfl (zinc (k := 1) (by decide) ex32) (by decide) rfl (fun ls hl => ?_)
        refine lv_goto (tgt := 6) hx hb dX1_shareOut_67 (by decide) ?_
        exact ih6 l2 l3 l4 x32 w31 ls _ _ h (lv_sub hl [1, 2, 3, 4, 5, 0] rfl) hE
      refine lv_iload hx hb dX1_shareOut_6 (lv_at hl 5 rfl) ?_
      refine lv_aload_n hx hb dX1_shareOut_8 rfl (lv_at hl 1 rfl) ?_
      obtain ⟨x33, ex33, h⟩ := zbdE h
      refine zr_getI S hK hE zcl_X6 (zcW0 hga1 w) 9 (Nat.le_of_ble_eq_true rfl) rfl qf_X1_51 dX1_shareOut_9 ex33 ?_
      refine lv_icmp_ge (tgt := 70) hx hb dX1_shareOut_12 (by decide) (fun c34 => ?_) (fun c34 => ?_)
      · have h := zif c34 h
        refine lv_iload hx hb dX1_shareOut_70 (lv_at hl 4 rfl) ?_
        refine lv_if_le (tgt := 88) hx hb dX1_shareOut_72 (by decide) (fun c35 => ?_) (fun c35 => ?_)
        · have h := zif c35 h
          refine lv_iconst (v := 0) hx hb dX1_shareOut_88 (by decide) ?_
          exact zr_zret S hE hr hlk (by decide) h dX1_shareOut_89
        · have h := zif' c35 h
          refine lv_iload hx hb dX1_shareOut_75 (lv_at hl 4 rfl) ?_
          refine lv_aload_n hx hb dX1_shareOut_77 rfl (lv_at hl 1 rfl) ?_
          obtain ⟨x36, ex36, h⟩ := zbdE h
          refine zr_getI S hK hE zcl_X6 (zcW0 hga1 w) 9 (Nat.le_of_ble_eq_true rfl) rfl qf_X1_51 dX1_shareOut_78 ex36 ?_
          refine lv_icmp_ge (tgt := 88) hx hb dX1_shareOut_81 (by decide) (fun c37 => ?_) (fun c37 => ?_)
          · have h := zif c37 h
            refine lv_iconst (v := 0) hx hb dX1_shareOut_88 (by decide) ?_
            exact zr_zret S hE hr hlk (by decide) h dX1_shareOut_89
          · have h := zif' c37 h
            refine lv_iconst (v := 1) hx hb dX1_shareOut_84 (by decide) ?_
            refine lv_goto (tgt := 89) hx hb dX1_shareOut_85 (by decide) ?_
            exact zr_zret S hE hr hlk (by decide) h dX1_shareOut_89
      · have h := zif' c34 h
        refine lv_aload_n hx hb dX1_shareOut_15 rfl (lv_at hl 1 rfl) ?_
        refine lv_iload hx hb dX1_shareOut_16 (lv_at hl 5 rfl) ?_
        refine lv_iload_n hx hb dX1_shareOut_18 rfl (lv_at hl 2 rfl) ?_
        refine lv_iload_n hx hb dX1_shareOut_19 rfl (lv_at hl 3 rfl) ?_
        obtain ⟨x38, w39, ew39, h⟩ := zbd2E h
        refine zr_i (zr_runV (As := [.int l5, .int l2, .int l3]) S hX hE (kX6_wouldTell l D tc lo ad fr zq a1 l5 l2 l3 w x38 w39 ew39) zyX6_wouldTell qm_X1_82 zcl_X6 rfl (zcW0 hga1 w) ⟨rfl, rfl⟩ ⟨Nat.le_of_ble_eq_true rfl, Nat.le_of_ble_eq_true rfl⟩ rfl hl.1 rfl (Nat.le_of_ble_eq_true rfl) dX1_shareOut_20 ⟨Nat.zero_le _, Nat.zero_le _⟩) hE (fun H locs hE => ?_)
        refine lv_istore (lv' := [(6, .int x38), (0, .ref (ad 31)), (1, .ref (ad a1)), (2, .int l2), (3, .int l3), (4, .int l4), (5, .int l5)]) hx hb dX1_shareOut_23 hl (by decide) rfl (fun ls hl => ?_)
        refine lv_iload hx hb dX1_shareOut_25 (lv_at hl 5 rfl) ?_
        refine lv_iload hx hb dX1_shareOut_27 (lv_at hl 0 rfl) ?_
        refine lv_iadd hx hb dX1_shareOut_29 ?_
        obtain ⟨x40, ex40, h⟩ := zbdE h
        refine zr_topi ex40 ?_
        refine lv_istore (lv' := [(4, .int x40), (6, .int x38), (0, .ref (ad 31)), (1, .ref (ad a1)), (2, .int l2), (3, .int l3), (5, .int l5)]) hx hb dX1_shareOut_30 hl (by decide) rfl (fun ls hl => ?_)
        refine lv_aload_n hx hb dX1_shareOut_32 rfl (lv_at hl 2 rfl) ?_
        refine zr_getA S hK hE zcl_X1 (zc_31 w39) 7 (Nat.le_of_ble_eq_true rfl) (q := 35) rfl qf_X1_22 dX1_shareOut_33 ?_
        refine lv_iload hx hb dX1_shareOut_36 (lv_at hl 6 rfl) ?_
        refine lv_aload_n hx hb dX1_shareOut_38 rfl (lv_at hl 2 rfl) ?_
        refine zr_getA S hK hE zcl_X1 (zc_31 w39) 6 (Nat.le_of_ble_eq_true rfl) (q := 34) rfl qf_X1_19 dX1_shareOut_39 ?_
        refine lv_iload hx hb dX1_shareOut_42 (lv_at hl 6 rfl) ?_
        obtain ⟨x41, ex41, h⟩ := zbdE h
        refine zr_lald S hK hE (zc_34 w39) dX1_shareOut_44 ex41 ?_
        refine lv_aload_n hx hb dX1_shareOut_45 rfl (lv_at hl 3 rfl) ?_
        refine lv_iload_n hx hb dX1_shareOut_46 rfl (lv_at hl 4 rfl) ?_
        refine lv_iload hx hb dX1_shareOut_47 (lv_at hl 1 rfl) ?_
        refine lv_iconst (v := 1) hx hb dX1_shareOut_49 (by decide) ?_
        refine lv_icmp_ne (tgt := 57) hx hb dX1_shareOut_50 (by decide) (fun c42 => ?_) (fun c42 => ?_)
        · have h := zif' c42 h
          refine lv_iconst (v := 0) hx hb dX1_shareOut_57 (by decide) ?_
          exact J58 l2 l3 x40 l5 l5 x41 l2 0 w39 ls _ _ h (lv_sub hl [2, 3, 4, 5, 0, 6] rfl) hE
        · have h := zif c42 h
          refine lv_iconst (v := 1) hx hb dX1_shareOut_53 (by decide) ?_
          refine lv_goto (tgt := 58) hx hb dX1_shareOut_54 (by decide) ?_
          exact J58 l2 l3 x40 l5 l5 x41 l2 1 w39 ls _ _ h (lv_sub hl [2, 3, 4, 5, 0, 6] rfl) hE
  refine lv_iconst (v := 0) hx hb dX1_shareOut_0 (by decide) ?_
  refine lv_istore (lv' := [(4, .int 0), (0, .ref (ad 31)), (1, .ref (ad a1)), (2, .int a2), (3, .int a3)]) hx hb dX1_shareOut_1 hl (by decide) rfl (fun ls hl => ?_)
  refine lv_iconst (v := 0) hx hb dX1_shareOut_3 (by decide) ?_
  refine lv_istore (lv' := [(5, .int 0), (4, .int 0), (0, .ref (ad 31)), (1, .ref (ad a1)), (2, .int a2), (3, .int a3)]) hx hb dX1_shareOut_4 hl (by decide) rfl (fun ls hl => ?_)
  exact L6 zfuel a2 a3 0 0 w ls _ _ h (lv_sub hl [2, 3, 4, 5, 1, 0] rfl) hE
set_option maxHeartbeats 4000000 in
set_option maxRecDepth 100000 in
theorem kX1_learnBy (l : Launch) (D : va_G) (tc : Nat → ClassId) (lo : Nat) (ad : Nat → Nat) (fr : va_W) (zq : zz_Q) (a1 : Nat) (a2 : Int32) (a3 : Int32) (w : zz_W) (r : Int32) (w_ : zz_W) (h : fX1_learnBy a1 a2 a3 w = some (r, w_)) : zMi l yX1_learnBy cX1_learnBy 13 (some .int) { frames := 3, cells := 0, slots := 0, locals := 74 } D tc lo ad zshC znnC fr zq [.ref (ad 31), .ref (ad a1), .int a2, .int a3] w r w_ := by
  refine zr_entry (by decide) (Nat.le_of_ble_eq_true rfl) fun p e s m args below meth c ls S hX hr hlk hE hl => ?_
  have S : CallFix p m c cX1_learnBy 13 s args (Cond.code yX1_learnBy cX1_learnBy 13 (some .int) :: zw_tb) RX1 := S
  have hx := S.1
  have hb := S.2.1
  have hK := hX.2.1
  have hl : lv_has ls 13 [(0, .ref (ad 31)), (1, .ref (ad a1)), (2, .int a2), (3, .int a3)] := hl
  unfold fX1_learnBy at h
  obtain ⟨hga1, h⟩ := zgrdE h
  have L30 : ∀ (n : Nat) (l4 : Int64) (l6 : Int64) (l8 : Int32) (w : zz_W) (ls : Array Slot) (H : Heap) (locs : List Loc), fX1_learnBy_30 a1 a2 a3 n l4 l6 l8 w = some (r, w_) → lv_has ls 13 [(0, .ref (ad 31)), (1, .ref (ad a1)), (4, .long l4), (6, .long l6), (8, .int l8)] → zE D tc lo ad zshC znnC fr w s.heap H locs → W p l e { frames := 3, cells := 0, slots := 0, locals := 74 } s m args below meth c H locs 0 0 (zZi D tc lo ad zshC znnC fr below args s r w_) (F0 m 30 ls []) := by
    intro n30
    induction n30 with
    | zero => intro l4 l6 l8 w ls H locs h hl hE; rw [fX1_learnBy_30] at h; cases h
    | succ n30 ih30 =>
      intro l4 l6 l8 w ls H locs h hl hE
      rw [fX1_learnBy_30] at h
      have J89 : ∀ (l6 : Int64) (l8 : Int32) (l11 : Int64) (s0 : Int64) (w : zz_W) (ls : Array Slot) (H : Heap) (locs : List Loc), fX1_learnBy_89 a1 a2 a3 (fX1_learnBy_30 a1 a2 a3 n30) l6 l8 l11 s0 w = some (r, w_) → lv_has ls 13 [(0, .ref (ad 31)), (1, .ref (ad a1)), (6, .long l6), (8, .int l8), (11, .long l11)] → zE D tc lo ad zshC znnC fr w s.heap H locs → W p l e { frames := 3, cells := 0, slots := 0, locals := 74 } s m args below meth c H locs 0 0 (zZi D tc lo ad zshC znnC fr below args s r w_) (F0 m 89 ls [.long s0]) := by
        intro l6 l8 l11 s0 w ls H locs h hl hE
        unfold fX1_learnBy_89 at h
        refine lv_lstore (lv' := [(4, .long s0), (0, .ref (ad 31)), (1, .ref (ad a1)), (6, .long l6), (8, .int l8), (11, .long l11)]) hx hb dX1_learnBy_89 hl (by decide) rfl (fun ls hl => ?_)
        refine lv_iload hx hb dX1_learnBy_91 (lv_at hl 4 rfl) ?_
        refine lv_if_ne (tgt := 101) hx hb dX1_learnBy_93 (by decide) (fun c43 => ?_) (fun c43 => ?_)
        · have h := zif' c43 h
          refine lv_lload hx hb dX1_learnBy_101 (lv_at hl 3 rfl) ?_
          refine lv_lload hx hb dX1_learnBy_103 (lv_at hl 5 rfl) ?_
          refine zr_mminL S zmath qm_X1_71 hl.1 ⟨Nat.le_of_ble_eq_true rfl, Nat.le_of_ble_eq_true rfl, Nat.zero_le _, Nat.zero_le _⟩ dX1_learnBy_105 ?_
          obtain ⟨x44, ex44, h⟩ := zbdE h
          refine zr_topl ex44 ?_
          refine lv_lstore (lv' := [(6, .long x44), (4, .long s0), (0, .ref (ad 31)), (1, .ref (ad a1)), (8, .int l8), (11, .long l11)]) hx hb dX1_learnBy_108 hl (by decide) rfl (fun ls hl => ?_)
          obtain ⟨x45, ex45, h⟩ := zbdE h
          refine lv_iinc (v := x45) (lv' := [(8, .int x45), (6, .long x44), (4, .long s0), (0, .ref (ad 31)), (1, .ref (ad a1)), (11, .long l11)]) hx hb dX1_learnBy_110 hl (k := 4) rfl (zinc (k := 1) (by decide) ex45) (by decide) rfl (fun ls hl => ?_)
          refine lv_goto (tgt := 30) hx hb dX1_learnBy_113 (by decide) ?_
          exact ih30 s0 x44 x45 w ls _ _ h (lv_sub hl [3, 4, 2, 1, 0] rfl) hE
        · have h := zif c43 h
          refine lv_lload hx hb dX1_learnBy_96 (lv_at hl 5 rfl) ?_
          refine lv_goto (tgt := 108) hx hb dX1_learnBy_98 (by decide) ?_
          refine lv_lstore (lv' := [(6, .long l11), (4, .long s0), (0, .ref (ad 31)), (1, .ref (ad a1)), (8, .int l8), (11, .long l11)]) hx hb dX1_learnBy_108 hl (by decide) rfl (fun ls hl => ?_)
          obtain ⟨x46, ex46, h⟩ := zbdE h
          refine lv_iinc (v := x46) (lv' := [(8, .int x46), (6, .long l11), (4, .long s0), (0, .ref (ad 31)), (1, .ref (ad a1)), (11, .long l11)]) hx hb dX1_learnBy_110 hl (k := 4) rfl (zinc (k := 1) (by decide) ex46) (by decide) rfl (fun ls hl => ?_)
          refine lv_goto (tgt := 30) hx hb dX1_learnBy_113 (by decide) ?_
          exact ih30 s0 l11 x46 w ls _ _ h (lv_sub hl [3, 4, 2, 1, 0] rfl) hE
      refine lv_iload hx hb dX1_learnBy_30 (lv_at hl 4 rfl) ?_
      refine lv_aload_n hx hb dX1_learnBy_32 rfl (lv_at hl 0 rfl) ?_
      obtain ⟨x47, ex47, h⟩ := zbdE h
      refine zr_getI S hK hE zcl_X1 (zc_31 w) 0 (Nat.le_of_ble_eq_true rfl) rfl qf_X1_25 dX1_learnBy_33 ex47 ?_
      refine lv_icmp_ge (tgt := 116) hx hb dX1_learnBy_36 (by decide) (fun c48 => ?_) (fun c48 => ?_)
      · have h := zif c48 h
        refine zr_ldc2 S qd_X1_77 dX1_learnBy_116 ?_
        refine zr_ldc2 S qd_X1_69 dX1_learnBy_119 ?_
        refine lv_aload_n hx hb dX1_learnBy_122 rfl (lv_at hl 0 rfl) ?_
        obtain ⟨x49, w50, ew50, h⟩ := zbd2E h
        refine zr_l (zr_runV (As := []) S hX hE (kX1_leastLoss l D tc lo ad fr zq w x49 w50 ew50) zyX1_leastLoss qm_X1_79 zcl_X1 rfl (zc_31 w) ⟨rfl, rfl⟩ ⟨Nat.le_of_ble_eq_true rfl, Nat.le_of_ble_eq_true rfl⟩ rfl hl.1 rfl (Nat.le_of_ble_eq_true rfl) dX1_learnBy_123 ⟨Nat.zero_le _, Nat.zero_le _⟩) hE (fun H locs hE => ?_)
        refine lv_lmul hx hb dX1_learnBy_126 ?_
        refine lv_lload hx hb dX1_learnBy_127 (lv_at hl 2 rfl) ?_
        refine lv_lsub hx hb dX1_learnBy_129 ?_
        refine lv_lload hx hb dX1_learnBy_130 (lv_at hl 3 rfl) ?_
        refine lv_lsub hx hb dX1_learnBy_132 ?_
        refine lv_lmul hx hb dX1_learnBy_133 ?_
        refine zr_ldc2 S qd_X1_69 dX1_learnBy_134 ?_
        refine lv_aload_n hx hb dX1_learnBy_137 rfl (lv_at hl 0 rfl) ?_
        obtain ⟨x51, ex51, h⟩ := zbdE h
        refine zr_getL S hK hE zcl_X1 (zc_31 w50) 8 (Nat.le_of_ble_eq_true rfl) rfl qf_X1_47 dX1_learnBy_138 ex51 ?_
        refine lv_lmul hx hb dX1_learnBy_141 ?_
        obtain ⟨x52, ex52, h⟩ := zbdE h
        refine zr_ldiv hx hb dX1_learnBy_142 ex52 ?_
        refine lv_l2i hx hb dX1_learnBy_143 rfl ?_
        exact zr_iret S hE hr hlk h dX1_learnBy_144
      · have h := zif' c48 h
        refine lv_aload_n hx hb dX1_learnBy_39 rfl (lv_at hl 1 rfl) ?_
        refine lv_aload_n hx hb dX1_learnBy_40 rfl (lv_at hl 0 rfl) ?_
        refine zr_getA S hK hE zcl_X1 (zc_31 w) 7 (Nat.le_of_ble_eq_true rfl) (q := 35) rfl qf_X1_22 dX1_learnBy_41 ?_
        refine lv_aload_n hx hb dX1_learnBy_44 rfl (lv_at hl 0 rfl) ?_
        refine zr_getA S hK hE zcl_X1 (zc_31 w) 4 (Nat.le_of_ble_eq_true rfl) (q := 32) rfl qf_X1_9 dX1_learnBy_45 ?_
        refine lv_iload hx hb dX1_learnBy_48 (lv_at hl 4 rfl) ?_
        obtain ⟨x53, ex53, h⟩ := zbdE h
        refine zr_iald S hK hE (zc_32 w) dX1_learnBy_50 ex53 ?_
        obtain ⟨x54, w55, ew55, h⟩ := zbd2E h
        refine zr_l (zr_runS (As := [.ref (ad a1), .ref (ad 35), .int x53]) S hX hE (kX1_lossOf l D tc lo ad fr zq a1 35 x53 w x54 w55 ew55) zyX1_lossOf qm_X1_61 ⟨rfl, rfl⟩ ⟨Nat.le_of_ble_eq_true rfl, Nat.le_of_ble_eq_true rfl⟩ rfl hl.1 rfl (Nat.le_of_ble_eq_true rfl) dX1_learnBy_51 ⟨Nat.zero_le _, Nat.zero_le _⟩) hE (fun H locs hE => ?_)
        refine lv_lstore (lv' := [(9, .long x54), (0, .ref (ad 31)), (1, .ref (ad a1)), (4, .long l4), (6, .long l6), (8, .int l8)]) hx hb dX1_learnBy_54 hl (by decide) rfl (fun ls hl => ?_)
        refine zr_ldc2 S qd_X1_69 dX1_learnBy_56 ?_
        refine lv_aload_n hx hb dX1_learnBy_59 rfl (lv_at hl 1 rfl) ?_
        refine zr_getA S hK hE zcl_X1 (zc_31 w55) 5 (Nat.le_of_ble_eq_true rfl) (q := 33) rfl qf_X1_15 dX1_learnBy_60 ?_
        refine lv_iload hx hb dX1_learnBy_63 (lv_at hl 5 rfl) ?_
        obtain ⟨x56, ex56, h⟩ := zbdE h
        refine zr_lald S hK hE (zc_33 w55) dX1_learnBy_65 ex56 ?_
        refine lv_lmul hx hb dX1_learnBy_66 ?_
        refine lv_lload hx hb dX1_learnBy_67 (lv_at hl 0 rfl) ?_
        refine lv_lsub hx hb dX1_learnBy_69 ?_
        obtain ⟨x57, ex57, h⟩ := zbdE h
        refine zr_topl ex57 ?_
        refine lv_lstore (lv' := [(11, .long x57), (9, .long x54), (0, .ref (ad 31)), (1, .ref (ad a1)), (4, .long l4), (6, .long l6), (8, .int l8)]) hx hb dX1_learnBy_70 hl (by decide) rfl (fun ls hl => ?_)
        refine lv_iload hx hb dX1_learnBy_72 (lv_at hl 6 rfl) ?_
        refine lv_if_ne (tgt := 82) hx hb dX1_learnBy_74 (by decide) (fun c58 => ?_) (fun c58 => ?_)
        · have h := zif' c58 h
          refine lv_lload hx hb dX1_learnBy_82 (lv_at hl 4 rfl) ?_
          refine lv_lload hx hb dX1_learnBy_84 (lv_at hl 1 rfl) ?_
          refine zr_mminL S zmath qm_X1_71 hl.1 ⟨Nat.le_of_ble_eq_true rfl, Nat.le_of_ble_eq_true rfl, Nat.zero_le _, Nat.zero_le _⟩ dX1_learnBy_86 ?_
          exact J89 l6 l8 x57 (zminL l4 x54) w55 ls _ _ h (lv_sub hl [2, 3, 5, 6, 0] rfl) hE
        · have h := zif c58 h
          refine lv_lload hx hb dX1_learnBy_77 (lv_at hl 1 rfl) ?_
          refine lv_goto (tgt := 89) hx hb dX1_learnBy_79 (by decide) ?_
          exact J89 l6 l8 x57 x54 w55 ls _ _ h (lv_sub hl [2, 3, 5, 6, 0] rfl) hE
  refine lv_aload_n hx hb dX1_learnBy_0 rfl (lv_at hl 0 rfl) ?_
  obtain ⟨x10001, ex10001, h⟩ := zbdE h
  refine zr_getL S hK hE zcl_X1 (zc_31 w) 8 (Nat.le_of_ble_eq_true rfl) rfl qf_X1_47 dX1_learnBy_1 ex10001 ?_
  refine lv_lconst (v := 0) hx hb dX1_learnBy_4 (by decide) ?_
  refine W.lcmp hx hb dX1_learnBy_5 ?_
  refine lv_if_le (tgt := 19) hx hb dX1_learnBy_6 (by decide) (fun c10002 => ?_) (fun c10002 => ?_)
  · have h := zif c10002 h
    refine lv_iconst (v := 0) hx hb dX1_learnBy_19 (by decide) ?_
    exact zr_iret S hE hr hlk h dX1_learnBy_20
  · have h := zif' c10002 h
    refine lv_aload_n hx hb dX1_learnBy_9 rfl (lv_at hl 0 rfl) ?_
    refine lv_aload_n hx hb dX1_learnBy_10 rfl (lv_at hl 1 rfl) ?_
    refine lv_iload_n hx hb dX1_learnBy_11 rfl (lv_at hl 2 rfl) ?_
    refine lv_iload_n hx hb dX1_learnBy_12 rfl (lv_at hl 3 rfl) ?_
    obtain ⟨x10003, w10004, ew10004, h⟩ := zbd2E h
    refine zr_i (zr_runV (As := [.ref (ad a1), .int a2, .int a3]) S hX hE (kX1_shareOut l D tc lo ad fr zq a1 a2 a3 w x10003 w10004 ew10004) zyX1_shareOut qm_X1_65 zcl_X1 rfl (zc_31 w) ⟨rfl, rfl⟩ ⟨Nat.le_of_ble_eq_true rfl, Nat.le_of_ble_eq_true rfl⟩ rfl hl.1 rfl (Nat.le_of_ble_eq_true rfl) dX1_learnBy_13 ⟨Nat.zero_le _, Nat.zero_le _⟩) hE (fun H locs hE => ?_)
    refine lv_if_ne (tgt := 21) hx hb dX1_learnBy_16 (by decide) (fun c10005 => ?_) (fun c10005 => ?_)
    · have h := zif' c10005 h
      refine lv_lconst (v := 0) hx hb dX1_learnBy_21 (by decide) ?_
      refine lv_lstore (lv' := [(4, .long 0), (0, .ref (ad 31)), (1, .ref (ad a1)), (2, .int a2), (3, .int a3)]) hx hb dX1_learnBy_22 hl (by decide) rfl (fun ls hl => ?_)
      refine lv_lconst (v := 0) hx hb dX1_learnBy_24 (by decide) ?_
      refine lv_lstore (lv' := [(6, .long 0), (4, .long 0), (0, .ref (ad 31)), (1, .ref (ad a1)), (2, .int a2), (3, .int a3)]) hx hb dX1_learnBy_25 hl (by decide) rfl (fun ls hl => ?_)
      refine lv_iconst (v := 0) hx hb dX1_learnBy_27 (by decide) ?_
      refine lv_istore (lv' := [(8, .int 0), (6, .long 0), (4, .long 0), (0, .ref (ad 31)), (1, .ref (ad a1)), (2, .int a2), (3, .int a3)]) hx hb dX1_learnBy_28 hl (by decide) rfl (fun ls hl => ?_)
      exact L30 zfuel 0 0 0 w10004 ls _ _ h (lv_sub hl [3, 4, 2, 1, 0] rfl) hE
    · have h := zif c10005 h
      refine lv_iconst (v := 0) hx hb dX1_learnBy_19 (by decide) ?_
      exact zr_iret S hE hr hlk h dX1_learnBy_20
set_option maxHeartbeats 4000000 in
set_option maxRecDepth 100000 in
theorem kX1_findWorthiest (l : Launch) (D : va_G) (tc : Nat → ClassId) (lo : Nat) (ad : Nat → Nat) (fr : va_W) (zq : zz_Q) (a1 : Nat) (w : zz_W) (w_ : zz_W) (h : fX1_findWorthiest a1 w = some w_) : zMv l yX1_findWorthiest cX1_findWorthiest 5 none { frames := 4, cells := 0, slots := 0, locals := 106 } D tc lo ad zshC znnC fr zq [.ref (ad 31), .ref (ad a1)] w w_ := by
  refine zr_entry (by decide) (Nat.le_of_ble_eq_true rfl) fun p e s m args below meth c ls S hX hr hlk hE hl => ?_
  have S : CallFix p m c cX1_findWorthiest 5 s args (Cond.code yX1_findWorthiest cX1_findWorthiest 5 none :: zw_tb) RX1 := S
  have hx := S.1
  have hb := S.2.1
  have hK := hX.2.1
  have hl : lv_has ls 5 [(0, .ref (ad 31)), (1, .ref (ad a1))] := hl
  unfold fX1_findWorthiest at h
  obtain ⟨hga1, h⟩ := zgrdE h
  have L7 : ∀ (n : Nat) (l2 : Int32) (w : zz_W) (ls : Array Slot) (H : Heap) (locs : List Loc), fX1_findWorthiest_7 a1 n l2 w = some w_ → lv_has ls 5 [(0, .ref (ad 31)), (1, .ref (ad a1)), (2, .int l2)] → zE D tc lo ad zshC znnC fr w s.heap H locs → W p l e { frames := 4, cells := 0, slots := 0, locals := 106 } s m args below meth c H locs 0 0 (zZv D tc lo ad zshC znnC fr below args s w_) (F0 m 7 ls []) := by
    intro n7
    induction n7 with
    | zero => intro l2 w ls H locs h hl hE; rw [fX1_findWorthiest_7] at h; cases h
    | succ n7 ih7 =>
      intro l2 w ls H locs h hl hE
      rw [fX1_findWorthiest_7] at h
      have L14 : ∀ (n : Nat) (l2 : Int32) (l3 : Int32) (w : zz_W) (ls : Array Slot) (H : Heap) (locs : List Loc), fX1_findWorthiest_14 a1 (fX1_findWorthiest_7 a1 n7) n l2 l3 w = some w_ → lv_has ls 5 [(0, .ref (ad 31)), (1, .ref (ad a1)), (2, .int l2), (3, .int l3)] → zE D tc lo ad zshC znnC fr w s.heap H locs → W p l e { frames := 4, cells := 0, slots := 0, locals := 106 } s m args below meth c H locs 0 0 (zZv D tc lo ad zshC znnC fr below args s w_) (F0 m 14 ls []) := by
        intro n14
        induction n14 with
        | zero => intro l2 l3 w ls H locs h hl hE; rw [fX1_findWorthiest_14] at h; cases h
        | succ n14 ih14 =>
          intro l2 l3 w ls H locs h hl hE
          rw [fX1_findWorthiest_14] at h
          refine lv_iload_n hx hb dX1_findWorthiest_14 rfl (lv_at hl 3 rfl) ?_
          refine lv_bipush (v := 36) hx hb dX1_findWorthiest_15 (by decide) ?_
          refine lv_icmp_ge (tgt := 60) hx hb dX1_findWorthiest_17 (by decide) (fun c27 => ?_) (fun c27 => ?_)
          · have h := zif c27 h
            obtain ⟨x28, ex28, h⟩ := zbdE h
            refine lv_iinc (v := x28) (lv' := [(2, .int x28), (0, .ref (ad 31)), (1, .ref (ad a1)), (3, .int l3)]) hx hb dX1_findWorthiest_60 hl (k := 2) rfl (zinc (k := 1) (by decide) ex28) (by decide) rfl (fun ls hl => ?_)
            refine lv_goto (tgt := 7) hx hb dX1_findWorthiest_63 (by decide) ?_
            exact ih7 x28 w ls _ _ h (lv_sub hl [1, 2, 0] rfl) hE
          · have h := zif' c27 h
            refine lv_aload_n hx hb dX1_findWorthiest_20 rfl (lv_at hl 0 rfl) ?_
            refine lv_aload_n hx hb dX1_findWorthiest_21 rfl (lv_at hl 1 rfl) ?_
            refine lv_iload_n hx hb dX1_findWorthiest_22 rfl (lv_at hl 2 rfl) ?_
            refine lv_iload_n hx hb dX1_findWorthiest_23 rfl (lv_at hl 3 rfl) ?_
            obtain ⟨x29, w30, ew30, h⟩ := zbd2E h
            refine zr_i (zr_runV (As := [.ref (ad a1), .int l2, .int l3]) S hX hE (kX1_learnBy l D tc lo ad fr zq a1 l2 l3 w x29 w30 ew30) zyX1_learnBy qm_X1_93 zcl_X1 rfl (zc_31 w) ⟨rfl, rfl⟩ ⟨Nat.le_of_ble_eq_true rfl, Nat.le_of_ble_eq_true rfl⟩ rfl hl.1 rfl (Nat.le_of_ble_eq_true rfl) dX1_findWorthiest_24 ⟨Nat.zero_le _, Nat.zero_le _⟩) hE (fun H locs hE => ?_)
            refine lv_istore (lv' := [(4, .int x29), (0, .ref (ad 31)), (1, .ref (ad a1)), (2, .int l2), (3, .int l3)]) hx hb dX1_findWorthiest_27 hl (by decide) rfl (fun ls hl => ?_)
            refine lv_iload hx hb dX1_findWorthiest_29 (lv_at hl 0 rfl) ?_
            refine lv_aload_n hx hb dX1_findWorthiest_31 rfl (lv_at hl 1 rfl) ?_
            obtain ⟨x31, ex31, h⟩ := zbdE h
            refine zr_getI S hK hE zcl_X1 (zc_31 w30) 3 (Nat.le_of_ble_eq_true rfl) rfl qf_X1_90 dX1_findWorthiest_32 ex31 ?_
            refine lv_icmp_le (tgt := 54) hx hb dX1_findWorthiest_35 (by decide) (fun c32 => ?_) (fun c32 => ?_)
            · have h := zif c32 h
              obtain ⟨x33, ex33, h⟩ := zbdE h
              refine lv_iinc (v := x33) (lv' := [(3, .int x33), (4, .int x29), (0, .ref (ad 31)), (1, .ref (ad a1)), (2, .int l2)]) hx hb dX1_findWorthiest_54 hl (k := 4) rfl (zinc (k := 1) (by decide) ex33) (by decide) rfl (fun ls hl => ?_)
              refine lv_goto (tgt := 14) hx hb dX1_findWorthiest_57 (by decide) ?_
              exact ih14 l2 x33 w30 ls _ _ h (lv_sub hl [2, 3, 4, 0] rfl) hE
            · have h := zif' c32 h
              refine lv_aload_n hx hb dX1_findWorthiest_38 rfl (lv_at hl 1 rfl) ?_
              refine lv_iload_n hx hb dX1_findWorthiest_39 rfl (lv_at hl 3 rfl) ?_
              obtain ⟨w34, ew34, h⟩ := zbdE h
              refine zr_putI S hK hE zcl_X1 (zc_31 w30) 1 (Nat.le_of_ble_eq_true rfl) rfl rfl rfl qf_X1_97 dX1_findWorthiest_40 ew34 (fun H locs hE => ?_)
              refine lv_aload_n hx hb dX1_findWorthiest_43 rfl (lv_at hl 1 rfl) ?_
              refine lv_iload_n hx hb dX1_findWorthiest_44 rfl (lv_at hl 4 rfl) ?_
              obtain ⟨w35, ew35, h⟩ := zbdE h
              refine zr_putI S hK hE zcl_X1 (zc_31 w34) 2 (Nat.le_of_ble_eq_true rfl) rfl rfl rfl qf_X1_100 dX1_findWorthiest_45 ew35 (fun H locs hE => ?_)
              refine lv_aload_n hx hb dX1_findWorthiest_48 rfl (lv_at hl 1 rfl) ?_
              refine lv_iload hx hb dX1_findWorthiest_49 (lv_at hl 0 rfl) ?_
              obtain ⟨w36, ew36, h⟩ := zbdE h
              refine zr_putI S hK hE zcl_X1 (zc_31 w35) 3 (Nat.le_of_ble_eq_true rfl) rfl rfl rfl qf_X1_90 dX1_findWorthiest_51 ew36 (fun H locs hE => ?_)
              obtain ⟨x37, ex37, h⟩ := zbdE h
              refine lv_iinc (v := x37) (lv' := [(3, .int x37), (4, .int x29), (0, .ref (ad 31)), (1, .ref (ad a1)), (2, .int l2)]) hx hb dX1_findWorthiest_54 hl (k := 4) rfl (zinc (k := 1) (by decide) ex37) (by decide) rfl (fun ls hl => ?_)
              refine lv_goto (tgt := 14) hx hb dX1_findWorthiest_57 (by decide) ?_
              exact ih14 l2 x37 w36 ls _ _ h (lv_sub hl [2, 3, 4, 0] rfl) hE
      refine lv_iload_n hx hb dX1_findWorthiest_7 rfl (lv_at hl 2 rfl) ?_
      refine lv_iconst (v := 4) hx hb dX1_findWorthiest_8 (by decide) ?_
      refine lv_icmp_ge (tgt := 66) hx hb dX1_findWorthiest_9 (by decide) (fun c38 => ?_) (fun c38 => ?_)
      · have h := zif c38 h
        exact zr_vret S hE hr hlk h dX1_findWorthiest_66
      · have h := zif' c38 h
        refine lv_iconst (v := 0) hx hb dX1_findWorthiest_12 (by decide) ?_
        refine lv_istore_n (lv' := [(3, .int 0), (0, .ref (ad 31)), (1, .ref (ad a1)), (2, .int l2)]) hx hb dX1_findWorthiest_13 rfl hl (by decide) rfl (fun ls hl => ?_)
        exact L14 zfuel l2 0 w ls _ _ h (lv_sub hl [1, 2, 3, 0] rfl) hE
  refine lv_aload_n hx hb dX1_findWorthiest_0 rfl (lv_at hl 0 rfl) ?_
  refine lv_iconst (v := (-1)) hx hb dX1_findWorthiest_1 (by decide) ?_
  obtain ⟨w10001, ew10001, h⟩ := zbdE h
  refine zr_putI S hK hE zcl_X1 (zc_31 w) 3 (Nat.le_of_ble_eq_true rfl) rfl rfl rfl qf_X1_90 dX1_findWorthiest_2 ew10001 (fun H locs hE => ?_)
  refine lv_iconst (v := 0) hx hb dX1_findWorthiest_5 (by decide) ?_
  refine lv_istore_n (lv' := [(2, .int 0), (0, .ref (ad 31)), (1, .ref (ad a1))]) hx hb dX1_findWorthiest_6 rfl hl (by decide) rfl (fun ls hl => ?_)
  exact L7 zfuel 0 w10001 ls _ _ h (lv_sub hl [1, 2, 0] rfl) hE
set_option maxHeartbeats 4000000 in
set_option maxRecDepth 100000 in
theorem kX6_allOdds (l : Launch) (D : va_G) (tc : Nat → ClassId) (lo : Nat) (ad : Nat → Nat) (fr : va_W) (zq : zz_Q) (b : Nat) (w : zz_W) (r : Int64) (w_ : zz_W) (h : fX6_allOdds b w = some (r, w_)) : zMl l yX6_allOdds cX6_allOdds 4 (some .long) { frames := 0, cells := 0, slots := 0, locals := 0 } D tc lo ad zshC znnC fr zq [.ref (ad b)] w r w_ := by
  refine zr_entry (by decide) (Nat.le_of_ble_eq_true rfl) fun p e s m args below meth c ls S hX hr hlk hE hl => ?_
  have S : CallFix p m c cX6_allOdds 4 s args (Cond.code yX6_allOdds cX6_allOdds 4 (some .long) :: zw_tb) RX6 := S
  have hx := S.1
  have hb := S.2.1
  have hK := hX.2.1
  have hl : lv_has ls 4 [(0, .ref (ad b))] := hl
  unfold fX6_allOdds at h
  obtain ⟨hgb, h⟩ := zgrdE h
  have L4 : ∀ (n : Nat) (l1 : Int64) (l3 : Int32) (w : zz_W) (ls : Array Slot) (H : Heap) (locs : List Loc), fX6_allOdds_4 b n l1 l3 w = some (r, w_) → lv_has ls 4 [(0, .ref (ad b)), (1, .long l1), (3, .int l3)] → zE D tc lo ad zshC znnC fr w s.heap H locs → W p l e { frames := 0, cells := 0, slots := 0, locals := 0 } s m args below meth c H locs 0 0 (zZl D tc lo ad zshC znnC fr below args s r w_) (F0 m 4 ls []) := by
    intro n4
    induction n4 with
    | zero => intro l1 l3 w ls H locs h hl hE; rw [fX6_allOdds_4] at h; cases h
    | succ n4 ih4 =>
      intro l1 l3 w ls H locs h hl hE
      rw [fX6_allOdds_4] at h
      refine lv_iload_n hx hb dX6_allOdds_4 rfl (lv_at hl 2 rfl) ?_
      refine lv_aload_n hx hb dX6_allOdds_5 rfl (lv_at hl 0 rfl) ?_
      obtain ⟨x11, ex11, h⟩ := zbdE h
      refine zr_getI S hK hE zcl_X6 (zcW0 hgb w) 9 (Nat.le_of_ble_eq_true rfl) rfl qf_X6_62 dX6_allOdds_6 ex11 ?_
      refine lv_icmp_ge (tgt := 28) hx hb dX6_allOdds_9 (by decide) (fun c12 => ?_) (fun c12 => ?_)
      · have h := zif c12 h
        refine lv_lload_n hx hb dX6_allOdds_28 rfl (lv_at hl 1 rfl) ?_
        exact zr_lret S hE hr hlk h dX6_allOdds_29
      · have h := zif' c12 h
        refine lv_lload_n hx hb dX6_allOdds_12 rfl (lv_at hl 1 rfl) ?_
        refine lv_aload_n hx hb dX6_allOdds_13 rfl (lv_at hl 0 rfl) ?_
        refine zr_getA S hK hE zcl_X6 (zcW0 hgb w) 4 (Nat.le_of_ble_eq_true rfl) (q := b + 5) rfl qf_X6_24 dX6_allOdds_14 ?_
        refine lv_iload_n hx hb dX6_allOdds_17 rfl (lv_at hl 2 rfl) ?_
        obtain ⟨x13, ex13, h⟩ := zbdE h
        refine zr_iald S hK hE (zcW5 hgb w) dX6_allOdds_18 ex13 ?_
        refine lv_i2l hx hb dX6_allOdds_19 rfl ?_
        refine lv_ladd hx hb dX6_allOdds_20 ?_
        obtain ⟨x14, ex14, h⟩ := zbdE h
        refine zr_topl ex14 ?_
        refine lv_lstore_n (lv' := [(1, .long x14), (0, .ref (ad b)), (3, .int l3)]) hx hb dX6_allOdds_21 rfl hl (by decide) rfl (fun ls hl => ?_)
        obtain ⟨x15, ex15, h⟩ := zbdE h
        refine lv_iinc (v := x15) (lv' := [(3, .int x15), (1, .long x14), (0, .ref (ad b))]) hx hb dX6_allOdds_22 hl (k := 2) rfl (zinc (k := 1) (by decide) ex15) (by decide) rfl (fun ls hl => ?_)
        refine lv_goto (tgt := 4) hx hb dX6_allOdds_25 (by decide) ?_
        exact ih4 x14 x15 w ls _ _ h (lv_sub hl [2, 1, 0] rfl) hE
  refine lv_lconst (v := 0) hx hb dX6_allOdds_0 (by decide) ?_
  refine lv_lstore_n (lv' := [(1, .long 0), (0, .ref (ad b))]) hx hb dX6_allOdds_1 rfl hl (by decide) rfl (fun ls hl => ?_)
  refine lv_iconst (v := 0) hx hb dX6_allOdds_2 (by decide) ?_
  refine lv_istore_n (lv' := [(3, .int 0), (1, .long 0), (0, .ref (ad b))]) hx hb dX6_allOdds_3 rfl hl (by decide) rfl (fun ls hl => ?_)
  exact L4 zfuel 0 0 w ls _ _ h (lv_sub hl [2, 1, 0] rfl) hE
set_option maxHeartbeats 4000000 in
set_option maxRecDepth 100000 in
theorem kX5_joined (l : Launch) (D : va_G) (tc : Nat → ClassId) (lo : Nat) (ad : Nat → Nat) (fr : va_W) (zq : zz_Q) (a1 : Int32) (a2 : Int32) (a3 : Int32) (w : zz_W) (r : Int32) (w_ : zz_W) (h : fX5_joined a1 a2 a3 w = some (r, w_)) : zMi l yX5_joined cX5_joined 3 (some .int) { frames := 0, cells := 0, slots := 0, locals := 0 } D tc lo ad zshC znnC fr zq [.int a1, .int a2, .int a3] w r w_ := by
  refine zr_entry (by decide) (Nat.le_of_ble_eq_true rfl) fun p e s m args below meth c ls S hX hr hlk hE hl => ?_
  have S : CallFix p m c cX5_joined 3 s args (Cond.code yX5_joined cX5_joined 3 (some .int) :: zw_tb) RX5 := S
  have hx := S.1
  have hb := S.2.1
  have hK := hX.2.1
  have hl : lv_has ls 3 [(0, .int a1), (1, .int a2), (2, .int a3)] := hl
  unfold fX5_joined at h
  refine lv_iload_n hx hb dX5_joined_0 rfl (lv_at hl 0 rfl) ?_
  by_cases c10003 : a1 = 38
  · refine lv_lookup (off := 89) (tgt := 90) hx hb dX5_joined_1 (by decide) (by rw [c10003]; decide) (by decide) ?_
    have h := zif c10003 h
    refine lv_iload_n hx hb dX5_joined_90 rfl (lv_at hl 1 rfl) ?_
    refine lv_if_eq (tgt := 102) hx hb dX5_joined_91 (by decide) (fun c10001 => ?_) (fun c10001 => ?_)
    · have h := zif c10001 h
      refine lv_iconst (v := 0) hx hb dX5_joined_102 (by decide) ?_
      exact zr_iret S hE hr hlk h dX5_joined_103
    · have h := zif' c10001 h
      refine lv_iload_n hx hb dX5_joined_94 rfl (lv_at hl 2 rfl) ?_
      refine lv_if_eq (tgt := 102) hx hb dX5_joined_95 (by decide) (fun c10002 => ?_) (fun c10002 => ?_)
      · have h := zif c10002 h
        refine lv_iconst (v := 0) hx hb dX5_joined_102 (by decide) ?_
        exact zr_iret S hE hr hlk h dX5_joined_103
      · have h := zif' c10002 h
        refine lv_iconst (v := 1) hx hb dX5_joined_98 (by decide) ?_
        refine lv_goto (tgt := 103) hx hb dX5_joined_99 (by decide) ?_
        exact zr_iret S hE hr hlk h dX5_joined_103
  have h := zif' c10003 h
  by_cases c10004 : a1 = 42
  · refine lv_lookup (off := 144) (tgt := 145) hx hb dX5_joined_1 (by decide) (by rw [c10004]; decide) (by decide) ?_
    have h := zif c10004 h
    refine lv_iload_n hx hb dX5_joined_145 rfl (lv_at hl 1 rfl) ?_
    refine lv_iload_n hx hb dX5_joined_146 rfl (lv_at hl 2 rfl) ?_
    refine lv_imul hx hb dX5_joined_147 ?_
    exact zr_iret S hE hr hlk h dX5_joined_148
  have h := zif' c10004 h
  by_cases c10005 : a1 = 43
  · refine lv_lookup (off := 136) (tgt := 137) hx hb dX5_joined_1 (by decide) (by rw [c10005]; decide) (by decide) ?_
    have h := zif c10005 h
    refine lv_iload_n hx hb dX5_joined_137 rfl (lv_at hl 1 rfl) ?_
    refine lv_iload_n hx hb dX5_joined_138 rfl (lv_at hl 2 rfl) ?_
    refine lv_iadd hx hb dX5_joined_139 ?_
    exact zr_iret S hE hr hlk h dX5_joined_140
  have h := zif' c10005 h
  by_cases c10006 : a1 = 45
  · refine lv_lookup (off := 140) (tgt := 141) hx hb dX5_joined_1 (by decide) (by rw [c10006]; decide) (by decide) ?_
    have h := zif c10006 h
    refine lv_iload_n hx hb dX5_joined_141 rfl (lv_at hl 1 rfl) ?_
    refine lv_iload_n hx hb dX5_joined_142 rfl (lv_at hl 2 rfl) ?_
    refine lv_isub hx hb dX5_joined_143 ?_
    exact zr_iret S hE hr hlk h dX5_joined_144
  have h := zif' c10006 h
  by_cases c10008 : a1 = 60
  · refine lv_lookup (off := 103) (tgt := 104) hx hb dX5_joined_1 (by decide) (by rw [c10008]; decide) (by decide) ?_
    have h := zif c10008 h
    refine lv_iload_n hx hb dX5_joined_104 rfl (lv_at hl 1 rfl) ?_
    refine lv_iload_n hx hb dX5_joined_105 rfl (lv_at hl 2 rfl) ?_
    refine lv_icmp_ge (tgt := 113) hx hb dX5_joined_106 (by decide) (fun c10007 => ?_) (fun c10007 => ?_)
    · have h := zif c10007 h
      refine lv_iconst (v := 0) hx hb dX5_joined_113 (by decide) ?_
      exact zr_iret S hE hr hlk h dX5_joined_114
    · have h := zif' c10007 h
      refine lv_iconst (v := 1) hx hb dX5_joined_109 (by decide) ?_
      refine lv_goto (tgt := 114) hx hb dX5_joined_110 (by decide) ?_
      exact zr_iret S hE hr hlk h dX5_joined_114
  have h := zif' c10008 h
  by_cases c10010 : a1 = 61
  · refine lv_lookup (off := 114) (tgt := 115) hx hb dX5_joined_1 (by decide) (by rw [c10010]; decide) (by decide) ?_
    have h := zif c10010 h
    refine lv_iload_n hx hb dX5_joined_115 rfl (lv_at hl 1 rfl) ?_
    refine lv_iload_n hx hb dX5_joined_116 rfl (lv_at hl 2 rfl) ?_
    refine lv_icmp_ne (tgt := 124) hx hb dX5_joined_117 (by decide) (fun c10009 => ?_) (fun c10009 => ?_)
    · have h := zif' c10009 h
      refine lv_iconst (v := 0) hx hb dX5_joined_124 (by decide) ?_
      exact zr_iret S hE hr hlk h dX5_joined_125
    · have h := zif c10009 h
      refine lv_iconst (v := 1) hx hb dX5_joined_120 (by decide) ?_
      refine lv_goto (tgt := 125) hx hb dX5_joined_121 (by decide) ?_
      exact zr_iret S hE hr hlk h dX5_joined_125
  have h := zif' c10010 h
  by_cases c10012 : a1 = 62
  · refine lv_lookup (off := 125) (tgt := 126) hx hb dX5_joined_1 (by decide) (by rw [c10012]; decide) (by decide) ?_
    have h := zif c10012 h
    refine lv_iload_n hx hb dX5_joined_126 rfl (lv_at hl 1 rfl) ?_
    refine lv_iload_n hx hb dX5_joined_127 rfl (lv_at hl 2 rfl) ?_
    refine lv_icmp_le (tgt := 135) hx hb dX5_joined_128 (by decide) (fun c10011 => ?_) (fun c10011 => ?_)
    · have h := zif c10011 h
      refine lv_iconst (v := 0) hx hb dX5_joined_135 (by decide) ?_
      exact zr_iret S hE hr hlk h dX5_joined_136
    · have h := zif' c10011 h
      refine lv_iconst (v := 1) hx hb dX5_joined_131 (by decide) ?_
      refine lv_goto (tgt := 136) hx hb dX5_joined_132 (by decide) ?_
      exact zr_iret S hE hr hlk h dX5_joined_136
  have h := zif' c10012 h
  by_cases c10015 : a1 = 124
  · refine lv_lookup (off := 75) (tgt := 76) hx hb dX5_joined_1 (by decide) (by rw [c10015]; decide) (by decide) ?_
    have h := zif c10015 h
    refine lv_iload_n hx hb dX5_joined_76 rfl (lv_at hl 1 rfl) ?_
    refine lv_if_ne (tgt := 84) hx hb dX5_joined_77 (by decide) (fun c10013 => ?_) (fun c10013 => ?_)
    · have h := zif' c10013 h
      refine lv_iconst (v := 1) hx hb dX5_joined_84 (by decide) ?_
      refine lv_goto (tgt := 89) hx hb dX5_joined_85 (by decide) ?_
      exact zr_iret S hE hr hlk h dX5_joined_89
    · have h := zif c10013 h
      refine lv_iload_n hx hb dX5_joined_80 rfl (lv_at hl 2 rfl) ?_
      refine lv_if_eq (tgt := 88) hx hb dX5_joined_81 (by decide) (fun c10014 => ?_) (fun c10014 => ?_)
      · have h := zif c10014 h
        refine lv_iconst (v := 0) hx hb dX5_joined_88 (by decide) ?_
        exact zr_iret S hE hr hlk h dX5_joined_89
      · have h := zif' c10014 h
        refine lv_iconst (v := 1) hx hb dX5_joined_84 (by decide) ?_
        refine lv_goto (tgt := 89) hx hb dX5_joined_85 (by decide) ?_
        exact zr_iret S hE hr hlk h dX5_joined_89
  have h := zif' c10015 h
  refine lv_lookup (off := 148) (tgt := 149) hx hb dX5_joined_1 (by decide) (by show Op.lookupswitch.offset [(38, 89), (42, 144), (43, 136), (45, 140), (60, 103), (61, 114), (62, 125), (124, 75)] 148 _ = 148; rw [lv_osw c10003 (a := 38) (by decide), lv_osw c10004 (a := 42) (by decide), lv_osw c10005 (a := 43) (by decide), lv_osw c10006 (a := 45) (by decide), lv_osw c10008 (a := 60) (by decide), lv_osw c10010 (a := 61) (by decide), lv_osw c10012 (a := 62) (by decide), lv_osw c10015 (a := 124) (by decide)]; rfl) (by decide) ?_
  refine lv_iload_n hx hb dX5_joined_149 rfl (lv_at hl 2 rfl) ?_
  refine lv_if_ne (tgt := 157) hx hb dX5_joined_150 (by decide) (fun c10016 => ?_) (fun c10016 => ?_)
  · have h := zif' c10016 h
    refine lv_iload_n hx hb dX5_joined_157 rfl (lv_at hl 1 rfl) ?_
    refine lv_iload_n hx hb dX5_joined_158 rfl (lv_at hl 2 rfl) ?_
    obtain ⟨x10017, ex10017, h⟩ := zbdE h
    refine zr_idiv hx hb dX5_joined_159 ex10017 ?_
    exact zr_iret S hE hr hlk h dX5_joined_160
  · have h := zif c10016 h
    refine lv_iconst (v := 0) hx hb dX5_joined_153 (by decide) ?_
    refine lv_goto (tgt := 160) hx hb dX5_joined_154 (by decide) ?_
    exact zr_iret S hE hr hlk h dX5_joined_160
set_option maxHeartbeats 4000000 in
set_option maxRecDepth 100000 in
theorem kX5_named (l : Launch) (D : va_G) (tc : Nat → ClassId) (lo : Nat) (ad : Nat → Nat) (fr : va_W) (zq : zz_Q) (a1 : Int32) (a2 : Int32) (a3 : Int32) (a4 : Int32) (w : zz_W) (r : Int32) (w_ : zz_W) (h : fX5_named a1 a2 a3 a4 w = some (r, w_)) : zMi l yX5_named cX5_named 4 (some .int) { frames := 0, cells := 0, slots := 0, locals := 0 } D tc lo ad zshC znnC fr zq [.int a1, .int a2, .int a3, .int a4] w r w_ := by
  refine zr_entry (by decide) (Nat.le_of_ble_eq_true rfl) fun p e s m args below meth c ls S hX hr hlk hE hl => ?_
  have S : CallFix p m c cX5_named 4 s args (Cond.code yX5_named cX5_named 4 (some .int) :: zw_tb) RX5 := S
  have hx := S.1
  have hb := S.2.1
  have hK := hX.2.1
  have hl : lv_has ls 4 [(0, .int a1), (1, .int a2), (2, .int a3), (3, .int a4)] := hl
  unfold fX5_named at h
  refine lv_iload_n hx hb dX5_named_0 rfl (lv_at hl 0 rfl) ?_
  refine lv_if_ne (tgt := 6) hx hb dX5_named_1 (by decide) (fun c10001 => ?_) (fun c10001 => ?_)
  · have h := zif' c10001 h
    refine lv_iload_n hx hb dX5_named_6 rfl (lv_at hl 0 rfl) ?_
    refine lv_iconst (v := 1) hx hb dX5_named_7 (by decide) ?_
    refine lv_icmp_ne (tgt := 15) hx hb dX5_named_8 (by decide) (fun c10002 => ?_) (fun c10002 => ?_)
    · have h := zif' c10002 h
      refine lv_iload_n hx hb dX5_named_15 rfl (lv_at hl 3 rfl) ?_
      exact zr_iret S hE hr hlk h dX5_named_16
    · have h := zif c10002 h
      refine lv_iload_n hx hb dX5_named_11 rfl (lv_at hl 2 rfl) ?_
      refine lv_goto (tgt := 16) hx hb dX5_named_12 (by decide) ?_
      exact zr_iret S hE hr hlk h dX5_named_16
  · have h := zif c10001 h
    refine lv_iload_n hx hb dX5_named_4 rfl (lv_at hl 1 rfl) ?_
    exact zr_iret S hE hr hlk h dX5_named_5
set_option maxHeartbeats 4000000 in
set_option maxRecDepth 100000 in
theorem kX5_valueOf (l : Launch) (D : va_G) (tc : Nat → ClassId) (lo : Nat) (ad : Nat → Nat) (fr : va_W) (zq : zz_Q) (q : Nat) (a1 : Int32) (a2 : Int32) (a3 : Int32) (w : zz_W) (r : Int32) (w_ : zz_W) (h : fX5_valueOf q a1 a2 a3 w = some (r, w_)) : zMi l yX5_valueOf cX5_valueOf 7 (some .int) { frames := 1, cells := 0, slots := 0, locals := 23 } D tc lo ad zshC znnC fr zq [.ref (ad q), .int a1, .int a2, .int a3] w r w_ := by
  refine zr_entry (by decide) (Nat.le_of_ble_eq_true rfl) fun p e s m args below meth c ls S hX hr hlk hE hl => ?_
  have S : CallFix p m c cX5_valueOf 7 s args (Cond.code yX5_valueOf cX5_valueOf 7 (some .int) :: zw_tb) RX5 := S
  have hx := S.1
  have hb := S.2.1
  have hK := hX.2.1
  have hl : lv_has ls 7 [(0, .ref (ad q)), (1, .int a1), (2, .int a2), (3, .int a3)] := hl
  unfold fX5_valueOf at h
  obtain ⟨hgq, h⟩ := zgrdE h
  have L6 : ∀ (n : Nat) (l1 : Int32) (l2 : Int32) (l3 : Int32) (l4 : Int32) (l5 : Int32) (w : zz_W) (ls : Array Slot) (H : Heap) (locs : List Loc), fX5_valueOf_6 q a1 a2 a3 n l1 l2 l3 l4 l5 w = some (r, w_) → lv_has ls 7 [(0, .ref (ad q)), (1, .int l1), (2, .int l2), (3, .int l3), (4, .int l4), (5, .int l5)] → zE D tc lo ad zshC znnC fr w s.heap H locs → W p l e { frames := 1, cells := 0, slots := 0, locals := 23 } s m args below meth c H locs 0 0 (zZi D tc lo ad zshC znnC fr below args s r w_) (F0 m 6 ls []) := by
    intro n6
    induction n6 with
    | zero => intro l1 l2 l3 l4 l5 w ls H locs h hl hE; rw [fX5_valueOf_6] at h; cases h
    | succ n6 ih6 =>
      intro l1 l2 l3 l4 l5 w ls H locs h hl hE
      rw [fX5_valueOf_6] at h
      have J113 : ∀ (l1 : Int32) (l2 : Int32) (l3 : Int32) (l4 : Int32) (l5 : Int32) (s1 : Int32) (s2 : Int32) (w : zz_W) (ls : Array Slot) (H : Heap) (locs : List Loc), fX5_valueOf_113 q a1 a2 a3 (fX5_valueOf_6 q a1 a2 a3 n6) l1 l2 l3 l4 l5 s1 s2 w = some (r, w_) → lv_has ls 7 [(0, .ref (ad q)), (1, .int l1), (2, .int l2), (3, .int l3), (4, .int l4), (5, .int l5)] → zE D tc lo ad zshC znnC fr w s.heap H locs → W p l e { frames := 1, cells := 0, slots := 0, locals := 23 } s m args below meth c H locs 0 0 (zZi D tc lo ad zshC znnC fr below args s r w_) (F0 m 113 ls [.int s2, .int s1, .ref (ad (q + 2))]) := by
        intro l1 l2 l3 l4 l5 s1 s2 w ls H locs h hl hE
        unfold fX5_valueOf_113 at h
        obtain ⟨hg67, h⟩ := zgrdE h
        obtain ⟨w68, ew68, h⟩ := zbdE h
        refine zr_iast S hK hE (zcT2 (w := w) hg67) dX5_valueOf_113 ew68 (fun H locs hE => ?_)
        refine lv_goto (tgt := 157) hx hb dX5_valueOf_114 (by decide) ?_
        obtain ⟨x69, ex69, h⟩ := zbdE h
        refine lv_iinc (v := x69) (lv' := [(5, .int x69), (0, .ref (ad q)), (1, .int l1), (2, .int l2), (3, .int l3), (4, .int l4)]) hx hb dX5_valueOf_157 hl (k := 5) rfl (zinc (k := 1) (by decide) ex69) (by decide) rfl (fun ls hl => ?_)
        refine lv_goto (tgt := 6) hx hb dX5_valueOf_160 (by decide) ?_
        exact ih6 l1 l2 l3 l4 x69 w68 ls _ _ h (lv_sub hl [1, 2, 3, 4, 5, 0] rfl) hE
      have J69 : ∀ (l1 : Int32) (l2 : Int32) (l3 : Int32) (l4 : Int32) (l5 : Int32) (s1 : Int32) (s2 : Int32) (w : zz_W) (ls : Array Slot) (H : Heap) (locs : List Loc), fX5_valueOf_69 q a1 a2 a3 (fX5_valueOf_6 q a1 a2 a3 n6) l1 l2 l3 l4 l5 s1 s2 w = some (r, w_) → lv_has ls 7 [(0, .ref (ad q)), (1, .int l1), (2, .int l2), (3, .int l3), (4, .int l4), (5, .int l5)] → zE D tc lo ad zshC znnC fr w s.heap H locs → W p l e { frames := 1, cells := 0, slots := 0, locals := 23 } s m args below meth c H locs 0 0 (zZi D tc lo ad zshC znnC fr below args s r w_) (F0 m 69 ls [.int s2, .int s1, .ref (ad (q + 2))]) := by
        intro l1 l2 l3 l4 l5 s1 s2 w ls H locs h hl hE
        unfold fX5_valueOf_69 at h
        obtain ⟨hg70, h⟩ := zgrdE h
        obtain ⟨w71, ew71, h⟩ := zbdE h
        refine zr_iast S hK hE (zcT2 (w := w) hg70) dX5_valueOf_69 ew71 (fun H locs hE => ?_)
        obtain ⟨x72, ex72, h⟩ := zbdE h
        refine lv_iinc (v := x72) (lv' := [(4, .int x72), (0, .ref (ad q)), (1, .int l1), (2, .int l2), (3, .int l3), (5, .int l5)]) hx hb dX5_valueOf_70 hl (k := 4) rfl (zinc (k := 1) (by decide) ex72) (by decide) rfl (fun ls hl => ?_)
        refine lv_goto (tgt := 157) hx hb dX5_valueOf_73 (by decide) ?_
        obtain ⟨x73, ex73, h⟩ := zbdE h
        refine lv_iinc (v := x73) (lv' := [(5, .int x73), (4, .int x72), (0, .ref (ad q)), (1, .int l1), (2, .int l2), (3, .int l3)]) hx hb dX5_valueOf_157 hl (k := 5) rfl (zinc (k := 1) (by decide) ex73) (by decide) rfl (fun ls hl => ?_)
        refine lv_goto (tgt := 6) hx hb dX5_valueOf_160 (by decide) ?_
        exact ih6 l1 l2 l3 x72 x73 w71 ls _ _ h (lv_sub hl [2, 3, 4, 5, 1, 0] rfl) hE
      refine lv_iload hx hb dX5_valueOf_6 (lv_at hl 5 rfl) ?_
      refine lv_aload_n hx hb dX5_valueOf_8 rfl (lv_at hl 0 rfl) ?_
      obtain ⟨hg74, h⟩ := zgrdE h
      refine zr_getA S hK hE zcl_X5 (zcT0 (w := w) hg74) 2 (Nat.le_of_ble_eq_true rfl) (q := q + 1) rfl qf_X5_16 dX5_valueOf_9 ?_
      refine zr_alen S hK hE (zcT1 (w := w) hg74) rfl dX5_valueOf_12 ?_
      refine lv_icmp_ge (tgt := 163) hx hb dX5_valueOf_13 (by decide) (fun c75 => ?_) (fun c75 => ?_)
      · have h := zif c75 h
        refine lv_iload hx hb dX5_valueOf_163 (lv_at hl 4 rfl) ?_
        refine lv_if_le (tgt := 177) hx hb dX5_valueOf_165 (by decide) (fun c76 => ?_) (fun c76 => ?_)
        · have h := zif c76 h
          refine lv_iconst (v := 0) hx hb dX5_valueOf_177 (by decide) ?_
          exact zr_iret S hE hr hlk h dX5_valueOf_178
        · have h := zif' c76 h
          refine lv_aload_n hx hb dX5_valueOf_168 rfl (lv_at hl 0 rfl) ?_
          refine zr_getA S hK hE zcl_X5 (zcT0 (w := w) hg74) 3 (Nat.le_of_ble_eq_true rfl) (q := q + 2) rfl qf_X5_20 dX5_valueOf_169 ?_
          refine lv_iconst (v := 0) hx hb dX5_valueOf_172 (by decide) ?_
          obtain ⟨x77, ex77, h⟩ := zbdE h
          refine zr_iald S hK hE (zcT2 (w := w) hg74) dX5_valueOf_173 ex77 ?_
          refine lv_goto (tgt := 178) hx hb dX5_valueOf_174 (by decide) ?_
          exact zr_iret S hE hr hlk h dX5_valueOf_178
      · have h := zif' c75 h
        refine lv_aload_n hx hb dX5_valueOf_16 rfl (lv_at hl 0 rfl) ?_
        refine zr_getA S hK hE zcl_X5 (zcT0 (w := w) hg74) 2 (Nat.le_of_ble_eq_true rfl) (q := q + 1) rfl qf_X5_16 dX5_valueOf_17 ?_
        refine lv_iload hx hb dX5_valueOf_20 (lv_at hl 5 rfl) ?_
        obtain ⟨x78, ex78, h⟩ := zbdE h
        refine zr_iald S hK hE (zcT1 (w := w) hg74) dX5_valueOf_22 ex78 ?_
        refine lv_istore (lv' := [(6, .int x78), (0, .ref (ad q)), (1, .int l1), (2, .int l2), (3, .int l3), (4, .int l4), (5, .int l5)]) hx hb dX5_valueOf_23 hl (by decide) rfl (fun ls hl => ?_)
        refine lv_iload hx hb dX5_valueOf_25 (lv_at hl 0 rfl) ?_
        refine lv_bipush (v := (-3)) hx hb dX5_valueOf_27 (by decide) ?_
        refine lv_icmp_lt (tgt := 76) hx hb dX5_valueOf_29 (by decide) (fun c79 => ?_) (fun c79 => ?_)
        · have h := zif c79 h
          refine lv_iload hx hb dX5_valueOf_76 (lv_at hl 0 rfl) ?_
          refine lv_bipush (v := (-33)) hx hb dX5_valueOf_78 (by decide) ?_
          refine lv_icmp_ne (tgt := 117) hx hb dX5_valueOf_80 (by decide) (fun c80 => ?_) (fun c80 => ?_)
          · have h := zif' c80 h
            refine lv_iload hx hb dX5_valueOf_117 (lv_at hl 5 rfl) ?_
            refine lv_iconst (v := 1) hx hb dX5_valueOf_119 (by decide) ?_
            refine lv_icmp_le (tgt := 157) hx hb dX5_valueOf_120 (by decide) (fun c81 => ?_) (fun c81 => ?_)
            · have h := zif c81 h
              obtain ⟨x82, ex82, h⟩ := zbdE h
              refine lv_iinc (v := x82) (lv' := [(5, .int x82), (6, .int x78), (0, .ref (ad q)), (1, .int l1), (2, .int l2), (3, .int l3), (4, .int l4)]) hx hb dX5_valueOf_157 hl (k := 6) rfl (zinc (k := 1) (by decide) ex82) (by decide) rfl (fun ls hl => ?_)
              refine lv_goto (tgt := 6) hx hb dX5_valueOf_160 (by decide) ?_
              exact ih6 l1 l2 l3 l4 x82 w ls _ _ h (lv_sub hl [2, 3, 4, 5, 6, 0] rfl) hE
            · have h := zif' c81 h
              obtain ⟨x83, ex83, h⟩ := zbdE h
              refine lv_iinc (v := x83) (lv' := [(4, .int x83), (6, .int x78), (0, .ref (ad q)), (1, .int l1), (2, .int l2), (3, .int l3), (5, .int l5)]) hx hb dX5_valueOf_123 hl (k := 5) rfl (zinc (k := (-1)) (by decide) ex83) (by decide) rfl (fun ls hl => ?_)
              refine lv_aload_n hx hb dX5_valueOf_126 rfl (lv_at hl 2 rfl) ?_
              refine zr_getA S hK hE zcl_X5 (zcT0 (w := w) hg74) 3 (Nat.le_of_ble_eq_true rfl) (q := q + 2) rfl qf_X5_20 dX5_valueOf_127 ?_
              refine lv_iload hx hb dX5_valueOf_130 (lv_at hl 0 rfl) ?_
              refine lv_iconst (v := 1) hx hb dX5_valueOf_132 (by decide) ?_
              refine lv_isub hx hb dX5_valueOf_133 ?_
              refine lv_iload hx hb dX5_valueOf_134 (lv_at hl 1 rfl) ?_
              refine lv_ineg hx hb dX5_valueOf_136 ?_
              refine lv_aload_n hx hb dX5_valueOf_137 rfl (lv_at hl 2 rfl) ?_
              refine zr_getA S hK hE zcl_X5 (zcT0 (w := w) hg74) 3 (Nat.le_of_ble_eq_true rfl) (q := q + 2) rfl qf_X5_20 dX5_valueOf_138 ?_
              refine lv_iload hx hb dX5_valueOf_141 (lv_at hl 0 rfl) ?_
              refine lv_iconst (v := 1) hx hb dX5_valueOf_143 (by decide) ?_
              refine lv_isub hx hb dX5_valueOf_144 ?_
              obtain ⟨x84, ex84, h⟩ := zbdE h
              refine zr_iald S hK hE (zcT2 (w := w) hg74) dX5_valueOf_145 ex84 ?_
              refine lv_aload_n hx hb dX5_valueOf_146 rfl (lv_at hl 2 rfl) ?_
              refine zr_getA S hK hE zcl_X5 (zcT0 (w := w) hg74) 3 (Nat.le_of_ble_eq_true rfl) (q := q + 2) rfl qf_X5_20 dX5_valueOf_147 ?_
              refine lv_iload hx hb dX5_valueOf_150 (lv_at hl 0 rfl) ?_
              obtain ⟨x85, ex85, h⟩ := zbdE h
              refine zr_iald S hK hE (zcT2 (w := w) hg74) dX5_valueOf_152 ex85 ?_
              obtain ⟨x86, w87, ew87, h⟩ := zbd2E h
              refine zr_i (zr_runS (As := [.int (-x78), .int x84, .int x85]) S hX hE (kX5_joined l D tc lo ad fr zq (-x78) x84 x85 w x86 w87 ew87) zyX5_joined qm_X5_27 ⟨rfl, rfl⟩ ⟨Nat.le_of_ble_eq_true rfl, Nat.le_of_ble_eq_true rfl⟩ rfl hl.1 rfl (Nat.le_of_ble_eq_true rfl) dX5_valueOf_153 ⟨Nat.zero_le _, Nat.zero_le _⟩) hE (fun H locs hE => ?_)
              obtain ⟨hg88, h⟩ := zgrdE h
              obtain ⟨w89, ew89, h⟩ := zbdE h
              refine zr_iast S hK hE (zcT2 (w := w87) hg88) dX5_valueOf_156 ew89 (fun H locs hE => ?_)
              obtain ⟨x90, ex90, h⟩ := zbdE h
              refine lv_iinc (v := x90) (lv' := [(5, .int x90), (4, .int x83), (6, .int x78), (0, .ref (ad q)), (1, .int l1), (2, .int l2), (3, .int l3)]) hx hb dX5_valueOf_157 hl (k := 6) rfl (zinc (k := 1) (by decide) ex90) (by decide) rfl (fun ls hl => ?_)
              refine lv_goto (tgt := 6) hx hb dX5_valueOf_160 (by decide) ?_
              exact ih6 l1 l2 l3 x83 x90 w89 ls _ _ h (lv_sub hl [3, 4, 5, 6, 1, 0] rfl) hE
          · have h := zif c80 h
            refine lv_iload hx hb dX5_valueOf_83 (lv_at hl 5 rfl) ?_
            refine lv_if_le (tgt := 157) hx hb dX5_valueOf_85 (by decide) (fun c91 => ?_) (fun c91 => ?_)
            · have h := zif c91 h
              obtain ⟨x92, ex92, h⟩ := zbdE h
              refine lv_iinc (v := x92) (lv' := [(5, .int x92), (6, .int x78), (0, .ref (ad q)), (1, .int l1), (2, .int l2), (3, .int l3), (4, .int l4)]) hx hb dX5_valueOf_157 hl (k := 6) rfl (zinc (k := 1) (by decide) ex92) (by decide) rfl (fun ls hl => ?_)
              refine lv_goto (tgt := 6) hx hb dX5_valueOf_160 (by decide) ?_
              exact ih6 l1 l2 l3 l4 x92 w ls _ _ h (lv_sub hl [2, 3, 4, 5, 6, 0] rfl) hE
            · have h := zif' c91 h
              refine lv_aload_n hx hb dX5_valueOf_88 rfl (lv_at hl 1 rfl) ?_
              refine zr_getA S hK hE zcl_X5 (zcT0 (w := w) hg74) 3 (Nat.le_of_ble_eq_true rfl) (q := q + 2) rfl qf_X5_20 dX5_valueOf_89 ?_
              refine lv_iload hx hb dX5_valueOf_92 (lv_at hl 5 rfl) ?_
              refine lv_iconst (v := 1) hx hb dX5_valueOf_94 (by decide) ?_
              refine lv_isub hx hb dX5_valueOf_95 ?_
              refine lv_aload_n hx hb dX5_valueOf_96 rfl (lv_at hl 1 rfl) ?_
              refine zr_getA S hK hE zcl_X5 (zcT0 (w := w) hg74) 3 (Nat.le_of_ble_eq_true rfl) (q := q + 2) rfl qf_X5_20 dX5_valueOf_97 ?_
              refine lv_iload hx hb dX5_valueOf_100 (lv_at hl 5 rfl) ?_
              refine lv_iconst (v := 1) hx hb dX5_valueOf_102 (by decide) ?_
              refine lv_isub hx hb dX5_valueOf_103 ?_
              obtain ⟨x93, ex93, h⟩ := zbdE h
              refine zr_iald S hK hE (zcT2 (w := w) hg74) dX5_valueOf_104 ex93 ?_
              refine lv_if_ne (tgt := 112) hx hb dX5_valueOf_105 (by decide) (fun c94 => ?_) (fun c94 => ?_)
              · have h := zif' c94 h
                refine lv_iconst (v := 0) hx hb dX5_valueOf_112 (by decide) ?_
                exact J113 l1 l2 l3 l4 l5 (l4 - 1) 0 w ls _ _ h (lv_sub hl [1, 2, 3, 4, 5, 6] rfl) hE
              · have h := zif c94 h
                refine lv_iconst (v := 1) hx hb dX5_valueOf_108 (by decide) ?_
                refine lv_goto (tgt := 113) hx hb dX5_valueOf_109 (by decide) ?_
                exact J113 l1 l2 l3 l4 l5 (l4 - 1) 1 w ls _ _ h (lv_sub hl [1, 2, 3, 4, 5, 6] rfl) hE
        · have h := zif' c79 h
          refine lv_iload hx hb dX5_valueOf_32 (lv_at hl 5 rfl) ?_
          refine lv_aload_n hx hb dX5_valueOf_34 rfl (lv_at hl 1 rfl) ?_
          refine zr_getA S hK hE zcl_X5 (zcT0 (w := w) hg74) 3 (Nat.le_of_ble_eq_true rfl) (q := q + 2) rfl qf_X5_20 dX5_valueOf_35 ?_
          refine zr_alen S hK hE (zcT2 (w := w) hg74) rfl dX5_valueOf_38 ?_
          refine lv_icmp_ge (tgt := 157) hx hb dX5_valueOf_39 (by decide) (fun c95 => ?_) (fun c95 => ?_)
          · have h := zif c95 h
            obtain ⟨x96, ex96, h⟩ := zbdE h
            refine lv_iinc (v := x96) (lv' := [(5, .int x96), (6, .int x78), (0, .ref (ad q)), (1, .int l1), (2, .int l2), (3, .int l3), (4, .int l4)]) hx hb dX5_valueOf_157 hl (k := 6) rfl (zinc (k := 1) (by decide) ex96) (by decide) rfl (fun ls hl => ?_)
            refine lv_goto (tgt := 6) hx hb dX5_valueOf_160 (by decide) ?_
            exact ih6 l1 l2 l3 l4 x96 w ls _ _ h (lv_sub hl [2, 3, 4, 5, 6, 0] rfl) hE
          · have h := zif' c95 h
            refine lv_aload_n hx hb dX5_valueOf_42 rfl (lv_at hl 1 rfl) ?_
            refine zr_getA S hK hE zcl_X5 (zcT0 (w := w) hg74) 3 (Nat.le_of_ble_eq_true rfl) (q := q + 2) rfl qf_X5_20 dX5_valueOf_43 ?_
            refine lv_iload hx hb dX5_valueOf_46 (lv_at hl 5 rfl) ?_
            refine lv_iload hx hb dX5_valueOf_48 (lv_at hl 0 rfl) ?_
            refine lv_if_lt (tgt := 58) hx hb dX5_valueOf_50 (by decide) (fun c97 => ?_) (fun c97 => ?_)
            · have h := zif c97 h
              refine lv_iload hx hb dX5_valueOf_58 (lv_at hl 0 rfl) ?_
              refine lv_bipush (v := (-3)) hx hb dX5_valueOf_60 (by decide) ?_
              refine lv_isub hx hb dX5_valueOf_62 ?_
              refine lv_iload_n hx hb dX5_valueOf_63 rfl (lv_at hl 2 rfl) ?_
              refine lv_iload_n hx hb dX5_valueOf_64 rfl (lv_at hl 3 rfl) ?_
              refine lv_iload_n hx hb dX5_valueOf_65 rfl (lv_at hl 4 rfl) ?_
              obtain ⟨x98, w99, ew99, h⟩ := zbd2E h
              refine zr_i (zr_runS (As := [.int (x78 - (-3)), .int l1, .int l2, .int l3]) S hX hE (kX5_named l D tc lo ad fr zq (x78 - (-3)) l1 l2 l3 w x98 w99 ew99) zyX5_named qm_X5_23 ⟨rfl, rfl⟩ ⟨Nat.le_of_ble_eq_true rfl, Nat.le_of_ble_eq_true rfl⟩ rfl hl.1 rfl (Nat.le_of_ble_eq_true rfl) dX5_valueOf_66 ⟨Nat.zero_le _, Nat.zero_le _⟩) hE (fun H locs hE => ?_)
              exact J69 l1 l2 l3 l4 l5 l4 x98 w99 ls _ _ h (lv_sub hl [1, 2, 3, 4, 5, 6] rfl) hE
            · have h := zif' c97 h
              refine lv_iload hx hb dX5_valueOf_53 (lv_at hl 0 rfl) ?_
              refine lv_goto (tgt := 69) hx hb dX5_valueOf_55 (by decide) ?_
              exact J69 l1 l2 l3 l4 l5 l4 x78 w ls _ _ h (lv_sub hl [1, 2, 3, 4, 5, 6] rfl) hE
  refine lv_iconst (v := 0) hx hb dX5_valueOf_0 (by decide) ?_
  refine lv_istore (lv' := [(4, .int 0), (0, .ref (ad q)), (1, .int a1), (2, .int a2), (3, .int a3)]) hx hb dX5_valueOf_1 hl (by decide) rfl (fun ls hl => ?_)
  refine lv_iconst (v := 0) hx hb dX5_valueOf_3 (by decide) ?_
  refine lv_istore (lv' := [(5, .int 0), (4, .int 0), (0, .ref (ad q)), (1, .int a1), (2, .int a2), (3, .int a3)]) hx hb dX5_valueOf_4 hl (by decide) rfl (fun ls hl => ?_)
  exact L6 zfuel a1 a2 a3 0 0 w ls _ _ h (lv_sub hl [2, 3, 4, 5, 1, 0] rfl) hE
set_option maxHeartbeats 4000000 in
set_option maxRecDepth 100000 in
theorem kX6_lawOr (l : Launch) (D : va_G) (tc : Nat → ClassId) (lo : Nat) (ad : Nat → Nat) (fr : va_W) (zq : zz_Q) (b : Nat) (a1 : Int32) (a2 : Int32) (a3 : Int32) (a4 : Int32) (a5 : Int32) (w : zz_W) (r : Int32) (w_ : zz_W) (h : fX6_lawOr b a1 a2 a3 a4 a5 w = some (r, w_)) : zMi l yX6_lawOr cX6_lawOr 7 (some .int) { frames := 2, cells := 0, slots := 0, locals := 49 } D tc lo ad zshC znnC fr zq [.ref (ad b), .int a1, .int a2, .int a3, .int a4, .int a5] w r w_ := by
  refine zr_entry (by decide) (Nat.le_of_ble_eq_true rfl) fun p e s m args below meth c ls S hX hr hlk hE hl => ?_
  have S : CallFix p m c cX6_lawOr 7 s args (Cond.code yX6_lawOr cX6_lawOr 7 (some .int) :: zw_tb) RX6 := S
  have hx := S.1
  have hb := S.2.1
  have hK := hX.2.1
  have hl : lv_has ls 7 [(0, .ref (ad b)), (1, .int a1), (2, .int a2), (3, .int a3), (4, .int a4), (5, .int a5)] := hl
  unfold fX6_lawOr at h
  obtain ⟨hgb, h⟩ := zgrdE h
  refine lv_aload_n hx hb dX6_lawOr_0 rfl (lv_at hl 0 rfl) ?_
  refine zr_getA S hK hE zcl_X6 (zcW0 hgb w) 8 (Nat.le_of_ble_eq_true rfl) (q := b + 9) rfl qf_X6_40 dX6_lawOr_1 ?_
  refine lv_iload_n hx hb dX6_lawOr_4 rfl (lv_at hl 2 rfl) ?_
  obtain ⟨x10001, ex10001, h⟩ := zbdE h
  refine zr_iald S hK hE (zcW9 hgb w) dX6_lawOr_5 ex10001 ?_
  refine lv_istore (lv' := [(6, .int x10001), (0, .ref (ad b)), (1, .int a1), (2, .int a2), (3, .int a3), (4, .int a4), (5, .int a5)]) hx hb dX6_lawOr_6 hl (by decide) rfl (fun ls hl => ?_)
  refine lv_iload hx hb dX6_lawOr_8 (lv_at hl 0 rfl) ?_
  refine lv_iconst (v := 0) hx hb dX6_lawOr_10 (by decide) ?_
  refine lv_aload_n hx hb dX6_lawOr_11 rfl (lv_at hl 1 rfl) ?_
  obtain ⟨x10002, ex10002, h⟩ := zbdE h
  refine zr_getI S hK hE zcl_X6 (zcW0 hgb w) 15 (Nat.le_of_ble_eq_true rfl) rfl qf_X6_68 dX6_lawOr_12 ex10002 ?_
  refine lv_iconst (v := 1) hx hb dX6_lawOr_15 (by decide) ?_
  refine lv_isub hx hb dX6_lawOr_16 ?_
  obtain ⟨x10003, w10004, ew10004, h⟩ := zbd2E h
  refine zr_i (zr_runSN (As := [.int x10001, .int 0, .int (x10002 - 1)]) S hX hE (kX7_within l D tc lo ad fr zq x10001 0 (x10002 - 1) w x10003 w10004 ew10004) zyX7_within qn_X6_71 ⟨rfl, rfl⟩ ⟨Nat.le_of_ble_eq_true rfl, Nat.le_of_ble_eq_true rfl⟩ rfl hl.1 rfl (Nat.le_of_ble_eq_true rfl) dX6_lawOr_17 ⟨Nat.zero_le _, Nat.zero_le _⟩) hE (fun H locs hE => ?_)
  refine lv_if_eq (tgt := 33) hx hb dX6_lawOr_20 (by decide) (fun c10005 => ?_) (fun c10005 => ?_)
  · have h := zif c10005 h
    refine lv_iload_n hx hb dX6_lawOr_33 rfl (lv_at hl 2 rfl) ?_
    exact zr_iret S hE hr hlk h dX6_lawOr_34
  · have h := zif' c10005 h
    refine lv_aload_n hx hb dX6_lawOr_23 rfl (lv_at hl 1 rfl) ?_
    refine zr_getA S hK hE zcl_X6 (zcW0 hgb w10004) 7 (Nat.le_of_ble_eq_true rfl) (q := b + 8) rfl qf_X6_36 dX6_lawOr_24 ?_
    refine lv_iload hx hb dX6_lawOr_27 (lv_at hl 0 rfl) ?_
    obtain ⟨o10006, eo10006, h⟩ := zbdE h
    refine zr_aald6 S hK hE (zcW8 hgb w10004) dX6_lawOr_29 eo10006 ?_
    cases o10006 with
    | none =>
      have h := zoptN h
      refine W.eq (g2 := F0 m 30 ls [.null]) rfl ?_
      refine lv_ifnonnullN hx hb dX6_lawOr_30 ?_
      refine lv_iload_n hx hb dX6_lawOr_33 rfl (lv_at hl 2 rfl) ?_
      exact zr_iret S hE hr hlk h dX6_lawOr_34
    | some q10007 =>
      have h := zoptS h
      refine W.eq (g2 := F0 m 30 ls [.ref (ad q10007)]) rfl ?_
      refine lv_ifnonnull (tgt := 35) hx hb dX6_lawOr_30 (by decide) ?_
      refine lv_aload_n hx hb dX6_lawOr_35 rfl (lv_at hl 1 rfl) ?_
      refine zr_getA S hK hE zcl_X6 (zcW0 hgb w10004) 7 (Nat.le_of_ble_eq_true rfl) (q := b + 8) rfl qf_X6_36 dX6_lawOr_36 ?_
      refine lv_iload hx hb dX6_lawOr_39 (lv_at hl 0 rfl) ?_
      obtain ⟨o10008, eo10008, h⟩ := zbdE h
      refine zr_aald6 S hK hE (zcW8 hgb w10004) dX6_lawOr_41 eo10008 ?_
      cases o10008 with
      | none =>
        have h := zoptN h
        refine W.eq (g2 := F0 m 42 ls [.null]) rfl ?_
        refine lv_iload_n hx hb dX6_lawOr_42 rfl (lv_at hl 4 rfl) ?_
        refine lv_iload hx hb dX6_lawOr_43 (lv_at hl 5 rfl) ?_
        refine lv_iload hx hb dX6_lawOr_45 (lv_at hl 6 rfl) ?_
        cases h
      | some q10009 =>
        have h := zoptS h
        refine W.eq (g2 := F0 m 42 ls [.ref (ad q10009)]) rfl ?_
        refine lv_iload_n hx hb dX6_lawOr_42 rfl (lv_at hl 4 rfl) ?_
        refine lv_iload hx hb dX6_lawOr_43 (lv_at hl 5 rfl) ?_
        refine lv_iload hx hb dX6_lawOr_45 (lv_at hl 6 rfl) ?_
        obtain ⟨hg10010, h⟩ := zgrdE h
        obtain ⟨x10011, w10012, ew10012, h⟩ := zbd2E h
        refine zr_i (zr_runV (As := [.int a3, .int a4, .int a5]) S hX hE (kX5_valueOf l D tc lo ad fr zq q10009 a3 a4 a5 w10004 x10011 w10012 ew10012) zyX5_valueOf qm_X6_161 zcl_X5 rfl (zcT0 (w := w10004) hg10010) ⟨rfl, rfl⟩ ⟨Nat.le_of_ble_eq_true rfl, Nat.le_of_ble_eq_true rfl⟩ rfl hl.1 rfl (Nat.le_of_ble_eq_true rfl) dX6_lawOr_47 ⟨Nat.zero_le _, Nat.zero_le _⟩) hE (fun H locs hE => ?_)
        exact zr_iret S hE hr hlk h dX6_lawOr_50
set_option maxHeartbeats 4000000 in
set_option maxRecDepth 100000 in
theorem kX7_held (l : Launch) (D : va_G) (tc : Nat → ClassId) (lo : Nat) (ad : Nat → Nat) (fr : va_W) (zq : zz_Q) (a1 : Int32) (a2 : Int32) (a3 : Int32) (w : zz_W) (r : Int32) (w_ : zz_W) (h : fX7_held a1 a2 a3 w = some (r, w_)) : zMi l yX7_held cX7_held 3 (some .int) { frames := 1, cells := 0, slots := 0, locals := 21 } D tc lo ad zshC znnC fr zq [.int a1, .int a2, .int a3] w r w_ := by
  refine zr_entry (by decide) (Nat.le_of_ble_eq_true rfl) fun p e s m args below meth c ls S hX hr hlk hE hl => ?_
  have S : CallFix p m c cX7_held 3 s args (Cond.code yX7_held cX7_held 3 (some .int) :: zw_tb) RX7 := S
  have hx := S.1
  have hb := S.2.1
  have hK := hX.2.1
  have hl : lv_has ls 3 [(0, .int a1), (1, .int a2), (2, .int a3)] := hl
  unfold fX7_held at h
  refine lv_iload_n hx hb dX7_held_0 rfl (lv_at hl 1 rfl) ?_
  refine lv_iload_n hx hb dX7_held_1 rfl (lv_at hl 2 rfl) ?_
  refine lv_iload_n hx hb dX7_held_2 rfl (lv_at hl 0 rfl) ?_
  refine zr_mmin S zmath qm_X7_143 hl.1 ⟨Nat.le_of_ble_eq_true rfl, Nat.le_of_ble_eq_true rfl, Nat.zero_le _, Nat.zero_le _⟩ dX7_held_3 ?_
  refine zr_mmax S zmath qm_X7_351 hl.1 ⟨Nat.le_of_ble_eq_true rfl, Nat.le_of_ble_eq_true rfl, Nat.zero_le _, Nat.zero_le _⟩ dX7_held_6 ?_
  exact zr_iret S hE hr hlk h dX7_held_9
set_option maxHeartbeats 4000000 in
set_option maxRecDepth 100000 in
theorem kX6_hurtOf (l : Launch) (D : va_G) (tc : Nat → ClassId) (lo : Nat) (ad : Nat → Nat) (fr : va_W) (zq : zz_Q) (b : Nat) (a1 : Int32) (w : zz_W) (r : Int32) (w_ : zz_W) (h : fX6_hurtOf b a1 w = some (r, w_)) : zMi l yX6_hurtOf cX6_hurtOf 3 (some .int) { frames := 3, cells := 0, slots := 0, locals := 75 } D tc lo ad zshC znnC fr zq [.ref (ad b), .int a1] w r w_ := by
  refine zr_entry (by decide) (Nat.le_of_ble_eq_true rfl) fun p e s m args below meth c ls S hX hr hlk hE hl => ?_
  have S : CallFix p m c cX6_hurtOf 3 s args (Cond.code yX6_hurtOf cX6_hurtOf 3 (some .int) :: zw_tb) RX6 := S
  have hx := S.1
  have hb := S.2.1
  have hK := hX.2.1
  have hl : lv_has ls 3 [(0, .ref (ad b)), (1, .int a1)] := hl
  unfold fX6_hurtOf at h
  obtain ⟨hgb, h⟩ := zgrdE h
  refine lv_aload_n hx hb dX6_hurtOf_0 rfl (lv_at hl 0 rfl) ?_
  refine lv_aload_n hx hb dX6_hurtOf_1 rfl (lv_at hl 0 rfl) ?_
  refine zr_getA S hK hE zcl_X6 (zcW0 hgb w) 3 (Nat.le_of_ble_eq_true rfl) (q := b + 4) rfl qf_X6_21 dX6_hurtOf_2 ?_
  refine lv_iload_n hx hb dX6_hurtOf_5 rfl (lv_at hl 1 rfl) ?_
  obtain ⟨x10001, ex10001, h⟩ := zbdE h
  refine zr_iald S hK hE (zcW4 hgb w) dX6_hurtOf_6 ex10001 ?_
  refine lv_iconst (v := 0) hx hb dX6_hurtOf_7 (by decide) ?_
  refine lv_aload_n hx hb dX6_hurtOf_8 rfl (lv_at hl 0 rfl) ?_
  refine zr_getA S hK hE zcl_X6 (zcW0 hgb w) 3 (Nat.le_of_ble_eq_true rfl) (q := b + 4) rfl qf_X6_21 dX6_hurtOf_9 ?_
  refine lv_iload_n hx hb dX6_hurtOf_12 rfl (lv_at hl 1 rfl) ?_
  obtain ⟨x10002, ex10002, h⟩ := zbdE h
  refine zr_iald S hK hE (zcW4 hgb w) dX6_hurtOf_13 ex10002 ?_
  refine lv_aload_n hx hb dX6_hurtOf_14 rfl (lv_at hl 0 rfl) ?_
  obtain ⟨x10003, ex10003, h⟩ := zbdE h
  refine zr_getI S hK hE zcl_X6 (zcW0 hgb w) 12 (Nat.le_of_ble_eq_true rfl) rfl qf_X6_50 dX6_hurtOf_15 ex10003 ?_
  refine lv_aload_n hx hb dX6_hurtOf_18 rfl (lv_at hl 0 rfl) ?_
  refine zr_getA S hK hE zcl_X6 (zcW0 hgb w) 2 (Nat.le_of_ble_eq_true rfl) (q := b + 3) rfl qf_X6_18 dX6_hurtOf_19 ?_
  refine lv_iload_n hx hb dX6_hurtOf_22 rfl (lv_at hl 1 rfl) ?_
  obtain ⟨x10004, ex10004, h⟩ := zbdE h
  refine zr_iald S hK hE (zcW3 hgb w) dX6_hurtOf_23 ex10004 ?_
  obtain ⟨x10005, w10006, ew10006, h⟩ := zbd2E h
  refine zr_i (zr_runV (As := [.int x10001, .int 0, .int x10002, .int x10003, .int x10004]) S hX hE (kX6_lawOr l D tc lo ad fr zq b x10001 0 x10002 x10003 x10004 w x10005 w10006 ew10006) zyX6_lawOr qm_X6_152 zcl_X6 rfl (zcW0 hgb w) ⟨rfl, rfl⟩ ⟨Nat.le_of_ble_eq_true rfl, Nat.le_of_ble_eq_true rfl⟩ rfl hl.1 rfl (Nat.le_of_ble_eq_true rfl) dX6_hurtOf_24 ⟨Nat.zero_le _, Nat.zero_le _⟩) hE (fun H locs hE => ?_)
  refine lv_istore_n (lv' := [(2, .int x10005), (0, .ref (ad b)), (1, .int a1)]) hx hb dX6_hurtOf_27 rfl hl (by decide) rfl (fun ls hl => ?_)
  refine lv_aload_n hx hb dX6_hurtOf_28 rfl (lv_at hl 1 rfl) ?_
  refine zr_getA S hK hE zcl_X6 (zcW0 hgb w10006) 0 (Nat.le_of_ble_eq_true rfl) (q := b + 1) rfl qf_X6_9 dX6_hurtOf_29 ?_
  refine lv_iload_n hx hb dX6_hurtOf_32 rfl (lv_at hl 2 rfl) ?_
  obtain ⟨x10007, ex10007, h⟩ := zbdE h
  refine zr_iald S hK hE (zcW1 hgb w10006) dX6_hurtOf_33 ex10007 ?_
  refine lv_iload_n hx hb dX6_hurtOf_34 rfl (lv_at hl 0 rfl) ?_
  refine lv_iconst (v := 0) hx hb dX6_hurtOf_35 (by decide) ?_
  refine lv_bipush (v := 99) hx hb dX6_hurtOf_36 (by decide) ?_
  obtain ⟨x10008, w10009, ew10009, h⟩ := zbd2E h
  refine zr_i (zr_runSN (As := [.int x10005, .int 0, .int 99]) S hX hE (kX7_held l D tc lo ad fr zq x10005 0 99 w10006 x10008 w10009 ew10009) zyX7_held qn_X6_156 ⟨rfl, rfl⟩ ⟨Nat.le_of_ble_eq_true rfl, Nat.le_of_ble_eq_true rfl⟩ rfl hl.1 rfl (Nat.le_of_ble_eq_true rfl) dX6_hurtOf_38 ⟨Nat.zero_le _, Nat.zero_le _⟩) hE (fun H locs hE => ?_)
  obtain ⟨x10010, w10011, ew10011, h⟩ := zbd2E h
  refine zr_i (zr_runS (As := [.int x10007, .int x10008]) S hX hE (kX0_hurtOf l D tc lo ad fr zq x10007 x10008 w10009 x10010 w10011 ew10011) zyX0_hurtOf qm_X6_159 ⟨rfl, rfl⟩ ⟨Nat.le_of_ble_eq_true rfl, Nat.le_of_ble_eq_true rfl⟩ rfl hl.1 rfl (Nat.le_of_ble_eq_true rfl) dX6_hurtOf_41 ⟨Nat.zero_le _, Nat.zero_le _⟩) hE (fun H locs hE => ?_)
  exact zr_iret S hE hr hlk h dX6_hurtOf_44
set_option maxHeartbeats 4000000 in
set_option maxRecDepth 100000 in
theorem kX6_lossBy (l : Launch) (D : va_G) (tc : Nat → ClassId) (lo : Nat) (ad : Nat → Nat) (fr : va_W) (zq : zz_Q) (b : Nat) (a1 : Int32) (a2 : Int32) (w : zz_W) (r : Int64) (w_ : zz_W) (h : fX6_lossBy b a1 a2 w = some (r, w_)) : zMl l yX6_lossBy cX6_lossBy 3 (some .long) { frames := 4, cells := 0, slots := 0, locals := 97 } D tc lo ad zshC znnC fr zq [.ref (ad b), .int a1, .int a2] w r w_ := by
  refine zr_entry (by decide) (Nat.le_of_ble_eq_true rfl) fun p e s m args below meth c ls S hX hr hlk hE hl => ?_
  have S : CallFix p m c cX6_lossBy 3 s args (Cond.code yX6_lossBy cX6_lossBy 3 (some .long) :: zw_tb) RX6 := S
  have hx := S.1
  have hb := S.2.1
  have hK := hX.2.1
  have hl : lv_has ls 3 [(0, .ref (ad b)), (1, .int a1), (2, .int a2)] := hl
  unfold fX6_lossBy at h
  obtain ⟨hgb, h⟩ := zgrdE h
  refine lv_aload_n hx hb dX6_lossBy_0 rfl (lv_at hl 0 rfl) ?_
  refine zr_getA S hK hE zcl_X6 (zcW0 hgb w) 3 (Nat.le_of_ble_eq_true rfl) (q := b + 4) rfl qf_X6_21 dX6_lossBy_1 ?_
  refine lv_iload_n hx hb dX6_lossBy_4 rfl (lv_at hl 1 rfl) ?_
  obtain ⟨x10001, ex10001, h⟩ := zbdE h
  refine zr_iald S hK hE (zcW4 hgb w) dX6_lossBy_5 ex10001 ?_
  refine lv_iload_n hx hb dX6_lossBy_6 rfl (lv_at hl 2 rfl) ?_
  refine lv_icmp_gt (tgt := 27) hx hb dX6_lossBy_7 (by decide) (fun c10002 => ?_) (fun c10002 => ?_)
  · have h := zif c10002 h
    refine lv_lconst (v := 0) hx hb dX6_lossBy_27 (by decide) ?_
    exact zr_lret S hE hr hlk h dX6_lossBy_28
  · have h := zif' c10002 h
    refine lv_aload_n hx hb dX6_lossBy_10 rfl (lv_at hl 0 rfl) ?_
    refine zr_getA S hK hE zcl_X6 (zcW0 hgb w) 4 (Nat.le_of_ble_eq_true rfl) (q := b + 5) rfl qf_X6_24 dX6_lossBy_11 ?_
    refine lv_iload_n hx hb dX6_lossBy_14 rfl (lv_at hl 1 rfl) ?_
    obtain ⟨x10003, ex10003, h⟩ := zbdE h
    refine zr_iald S hK hE (zcW5 hgb w) dX6_lossBy_15 ex10003 ?_
    refine lv_i2l hx hb dX6_lossBy_16 rfl ?_
    refine lv_aload_n hx hb dX6_lossBy_17 rfl (lv_at hl 0 rfl) ?_
    refine lv_iload_n hx hb dX6_lossBy_18 rfl (lv_at hl 1 rfl) ?_
    obtain ⟨x10004, w10005, ew10005, h⟩ := zbd2E h
    refine zr_i (zr_runV (As := [.int a1]) S hX hE (kX6_hurtOf l D tc lo ad fr zq b a1 w x10004 w10005 ew10005) zyX6_hurtOf qm_X6_123 zcl_X6 rfl (zcW0 hgb w) ⟨rfl, rfl⟩ ⟨Nat.le_of_ble_eq_true rfl, Nat.le_of_ble_eq_true rfl⟩ rfl hl.1 rfl (Nat.le_of_ble_eq_true rfl) dX6_lossBy_19 ⟨Nat.zero_le _, Nat.zero_le _⟩) hE (fun H locs hE => ?_)
    refine lv_i2l hx hb dX6_lossBy_22 rfl ?_
    refine lv_lmul hx hb dX6_lossBy_23 ?_
    refine lv_goto (tgt := 28) hx hb dX6_lossBy_24 (by decide) ?_
    exact zr_lret S hE hr hlk h dX6_lossBy_28
set_option maxHeartbeats 4000000 in
set_option maxRecDepth 100000 in
theorem kX1_weigh (l : Launch) (D : va_G) (tc : Nat → ClassId) (lo : Nat) (ad : Nat → Nat) (fr : va_W) (zq : zz_Q) (a1 : Nat) (a2 : Int32) (w : zz_W) (w_ : zz_W) (h : fX1_weigh a1 a2 w = some w_) : zMv l yX1_weigh cX1_weigh 4 none { frames := 5, cells := 0, slots := 0, locals := 119 } D tc lo ad zshC znnC fr zq [.ref (ad 31), .ref (ad a1), .int a2] w w_ := by
  refine zr_entry (by decide) (Nat.le_of_ble_eq_true rfl) fun p e s m args below meth c ls S hX hr hlk hE hl => ?_
  have S : CallFix p m c cX1_weigh 4 s args (Cond.code yX1_weigh cX1_weigh 4 none :: zw_tb) RX1 := S
  have hx := S.1
  have hb := S.2.1
  have hK := hX.2.1
  have hl : lv_has ls 4 [(0, .ref (ad 31)), (1, .ref (ad a1)), (2, .int a2)] := hl
  unfold fX1_weigh at h
  obtain ⟨hga1, h⟩ := zgrdE h
  have L43 : ∀ (n : Nat) (l3 : Int32) (w : zz_W) (ls : Array Slot) (H : Heap) (locs : List Loc), fX1_weigh_43 a1 a2 n l3 w = some w_ → lv_has ls 4 [(0, .ref (ad 31)), (1, .ref (ad a1)), (3, .int l3)] → zE D tc lo ad zshC znnC fr w s.heap H locs → W p l e { frames := 5, cells := 0, slots := 0, locals := 119 } s m args below meth c H locs 0 0 (zZv D tc lo ad zshC znnC fr below args s w_) (F0 m 43 ls []) := by
    intro n43
    induction n43 with
    | zero => intro l3 w ls H locs h hl hE; rw [fX1_weigh_43] at h; cases h
    | succ n43 ih43 =>
      intro l3 w ls H locs h hl hE
      rw [fX1_weigh_43] at h
      have J99 : ∀ (l3 : Int32) (s1 : Int32) (w : zz_W) (ls : Array Slot) (H : Heap) (locs : List Loc), fX1_weigh_99 a1 a2 (fX1_weigh_43 a1 a2 n43) l3 s1 w = some w_ → lv_has ls 4 [(0, .ref (ad 31)), (1, .ref (ad a1)), (3, .int l3)] → zE D tc lo ad zshC znnC fr w s.heap H locs → W p l e { frames := 5, cells := 0, slots := 0, locals := 119 } s m args below meth c H locs 0 0 (zZv D tc lo ad zshC znnC fr below args s w_) (F0 m 99 ls [.int s1, .ref (ad 31)]) := by
        intro l3 s1 w ls H locs h hl hE
        unfold fX1_weigh_99 at h
        obtain ⟨w47, ew47, h⟩ := zbdE h
        refine zr_putI S hK hE zcl_X1 (zc_31 w) 9 (Nat.le_of_ble_eq_true rfl) rfl rfl rfl qf_X1_58 dX1_weigh_99 ew47 (fun H locs hE => ?_)
        obtain ⟨x48, ex48, h⟩ := zbdE h
        refine lv_iinc (v := x48) (lv' := [(3, .int x48), (0, .ref (ad 31)), (1, .ref (ad a1))]) hx hb dX1_weigh_102 hl (k := 2) rfl (zinc (k := 1) (by decide) ex48) (by decide) rfl (fun ls hl => ?_)
        refine lv_goto (tgt := 43) hx hb dX1_weigh_105 (by decide) ?_
        exact ih43 x48 w47 ls _ _ h (lv_sub hl [1, 2, 0] rfl) hE
      refine lv_iload_n hx hb dX1_weigh_43 rfl (lv_at hl 2 rfl) ?_
      refine lv_aload_n hx hb dX1_weigh_44 rfl (lv_at hl 0 rfl) ?_
      obtain ⟨x49, ex49, h⟩ := zbdE h
      refine zr_getI S hK hE zcl_X1 (zc_31 w) 0 (Nat.le_of_ble_eq_true rfl) rfl qf_X1_25 dX1_weigh_45 ex49 ?_
      refine lv_icmp_ge (tgt := 108) hx hb dX1_weigh_48 (by decide) (fun c50 => ?_) (fun c50 => ?_)
      · have h := zif c50 h
        exact zr_vret S hE hr hlk h dX1_weigh_108
      · have h := zif' c50 h
        refine lv_aload_n hx hb dX1_weigh_51 rfl (lv_at hl 0 rfl) ?_
        refine zr_getA S hK hE zcl_X1 (zc_31 w) 5 (Nat.le_of_ble_eq_true rfl) (q := 33) rfl qf_X1_15 dX1_weigh_52 ?_
        refine lv_iload_n hx hb dX1_weigh_55 rfl (lv_at hl 2 rfl) ?_
        refine lv_aload_n hx hb dX1_weigh_56 rfl (lv_at hl 1 rfl) ?_
        refine lv_aload_n hx hb dX1_weigh_57 rfl (lv_at hl 0 rfl) ?_
        refine zr_getA S hK hE zcl_X1 (zc_31 w) 6 (Nat.le_of_ble_eq_true rfl) (q := 34) rfl qf_X1_19 dX1_weigh_58 ?_
        refine lv_aload_n hx hb dX1_weigh_61 rfl (lv_at hl 0 rfl) ?_
        refine zr_getA S hK hE zcl_X1 (zc_31 w) 4 (Nat.le_of_ble_eq_true rfl) (q := 32) rfl qf_X1_9 dX1_weigh_62 ?_
        refine lv_iload_n hx hb dX1_weigh_65 rfl (lv_at hl 2 rfl) ?_
        obtain ⟨x51, ex51, h⟩ := zbdE h
        refine zr_iald S hK hE (zc_32 w) dX1_weigh_66 ex51 ?_
        obtain ⟨x52, w53, ew53, h⟩ := zbd2E h
        refine zr_l (zr_runS (As := [.ref (ad a1), .ref (ad 34), .int x51]) S hX hE (kX1_lossOf l D tc lo ad fr zq a1 34 x51 w x52 w53 ew53) zyX1_lossOf qm_X1_61 ⟨rfl, rfl⟩ ⟨Nat.le_of_ble_eq_true rfl, Nat.le_of_ble_eq_true rfl⟩ rfl hl.1 rfl (Nat.le_of_ble_eq_true rfl) dX1_weigh_67 ⟨Nat.zero_le _, Nat.zero_le _⟩) hE (fun H locs hE => ?_)
        obtain ⟨w54, ew54, h⟩ := zbdE h
        refine zr_last S hK hE (zc_33 w53) dX1_weigh_70 ew54 (fun H locs hE => ?_)
        refine lv_aload_n hx hb dX1_weigh_71 rfl (lv_at hl 0 rfl) ?_
        refine lv_aload_n hx hb dX1_weigh_72 rfl (lv_at hl 0 rfl) ?_
        refine zr_getA S hK hE zcl_X1 (zc_31 w54) 5 (Nat.le_of_ble_eq_true rfl) (q := 33) rfl qf_X1_15 dX1_weigh_73 ?_
        refine lv_iload_n hx hb dX1_weigh_76 rfl (lv_at hl 2 rfl) ?_
        obtain ⟨x55, ex55, h⟩ := zbdE h
        refine zr_lald S hK hE (zc_33 w54) dX1_weigh_77 ex55 ?_
        refine lv_aload_n hx hb dX1_weigh_78 rfl (lv_at hl 0 rfl) ?_
        refine zr_getA S hK hE zcl_X1 (zc_31 w54) 5 (Nat.le_of_ble_eq_true rfl) (q := 33) rfl qf_X1_15 dX1_weigh_79 ?_
        refine lv_aload_n hx hb dX1_weigh_82 rfl (lv_at hl 0 rfl) ?_
        obtain ⟨x56, ex56, h⟩ := zbdE h
        refine zr_getI S hK hE zcl_X1 (zc_31 w54) 9 (Nat.le_of_ble_eq_true rfl) rfl qf_X1_58 dX1_weigh_83 ex56 ?_
        obtain ⟨x57, ex57, h⟩ := zbdE h
        refine zr_lald S hK hE (zc_33 w54) dX1_weigh_86 ex57 ?_
        refine W.lcmp hx hb dX1_weigh_87 ?_
        refine lv_if_ge (tgt := 95) hx hb dX1_weigh_88 (by decide) (fun c58 => ?_) (fun c58 => ?_)
        · have h := zif c58 h
          refine lv_aload_n hx hb dX1_weigh_95 rfl (lv_at hl 0 rfl) ?_
          obtain ⟨x59, ex59, h⟩ := zbdE h
          refine zr_getI S hK hE zcl_X1 (zc_31 w54) 9 (Nat.le_of_ble_eq_true rfl) rfl qf_X1_58 dX1_weigh_96 ex59 ?_
          exact J99 l3 x59 w54 ls _ _ h (lv_sub hl [0, 1, 2] rfl) hE
        · have h := zif' c58 h
          refine lv_iload_n hx hb dX1_weigh_91 rfl (lv_at hl 2 rfl) ?_
          refine lv_goto (tgt := 99) hx hb dX1_weigh_92 (by decide) ?_
          exact J99 l3 l3 w54 ls _ _ h (lv_sub hl [0, 1, 2] rfl) hE
  have L10 : ∀ (n : Nat) (l2 : Int32) (l3 : Int32) (w : zz_W) (ls : Array Slot) (H : Heap) (locs : List Loc), fX1_weigh_10 a1 a2 n l2 l3 w = some w_ → lv_has ls 4 [(0, .ref (ad 31)), (1, .ref (ad a1)), (2, .int l2), (3, .int l3)] → zE D tc lo ad zshC znnC fr w s.heap H locs → W p l e { frames := 5, cells := 0, slots := 0, locals := 119 } s m args below meth c H locs 0 0 (zZv D tc lo ad zshC znnC fr below args s w_) (F0 m 10 ls []) := by
    intro n10
    induction n10 with
    | zero => intro l2 l3 w ls H locs h hl hE; rw [fX1_weigh_10] at h; cases h
    | succ n10 ih10 =>
      intro l2 l3 w ls H locs h hl hE
      rw [fX1_weigh_10] at h
      refine lv_iload_n hx hb dX1_weigh_10 rfl (lv_at hl 3 rfl) ?_
      refine lv_aload_n hx hb dX1_weigh_11 rfl (lv_at hl 1 rfl) ?_
      obtain ⟨x60, ex60, h⟩ := zbdE h
      refine zr_getI S hK hE zcl_X6 (zcW0 hga1 w) 9 (Nat.le_of_ble_eq_true rfl) rfl qf_X1_51 dX1_weigh_12 ex60 ?_
      refine lv_icmp_ge (tgt := 36) hx hb dX1_weigh_15 (by decide) (fun c61 => ?_) (fun c61 => ?_)
      · have h := zif c61 h
        refine lv_aload_n hx hb dX1_weigh_36 rfl (lv_at hl 0 rfl) ?_
        refine lv_iconst (v := 0) hx hb dX1_weigh_37 (by decide) ?_
        obtain ⟨w62, ew62, h⟩ := zbdE h
        refine zr_putI S hK hE zcl_X1 (zc_31 w) 9 (Nat.le_of_ble_eq_true rfl) rfl rfl rfl qf_X1_58 dX1_weigh_38 ew62 (fun H locs hE => ?_)
        refine lv_iconst (v := 0) hx hb dX1_weigh_41 (by decide) ?_
        refine lv_istore_n (lv' := [(3, .int 0), (0, .ref (ad 31)), (1, .ref (ad a1)), (2, .int l2)]) hx hb dX1_weigh_42 rfl hl (by decide) rfl (fun ls hl => ?_)
        exact L43 zfuel 0 w62 ls _ _ h (lv_sub hl [1, 2, 0] rfl) hE
      · have h := zif' c61 h
        refine lv_aload_n hx hb dX1_weigh_18 rfl (lv_at hl 0 rfl) ?_
        refine zr_getA S hK hE zcl_X1 (zc_31 w) 6 (Nat.le_of_ble_eq_true rfl) (q := 34) rfl qf_X1_19 dX1_weigh_19 ?_
        refine lv_iload_n hx hb dX1_weigh_22 rfl (lv_at hl 3 rfl) ?_
        refine lv_aload_n hx hb dX1_weigh_23 rfl (lv_at hl 1 rfl) ?_
        refine lv_iload_n hx hb dX1_weigh_24 rfl (lv_at hl 3 rfl) ?_
        refine lv_iload_n hx hb dX1_weigh_25 rfl (lv_at hl 2 rfl) ?_
        obtain ⟨x63, w64, ew64, h⟩ := zbd2E h
        refine zr_l (zr_runV (As := [.int l3, .int l2]) S hX hE (kX6_lossBy l D tc lo ad fr zq a1 l3 l2 w x63 w64 ew64) zyX6_lossBy qm_X1_54 zcl_X6 rfl (zcW0 hga1 w) ⟨rfl, rfl⟩ ⟨Nat.le_of_ble_eq_true rfl, Nat.le_of_ble_eq_true rfl⟩ rfl hl.1 rfl (Nat.le_of_ble_eq_true rfl) dX1_weigh_26 ⟨Nat.zero_le _, Nat.zero_le _⟩) hE (fun H locs hE => ?_)
        obtain ⟨w65, ew65, h⟩ := zbdE h
        refine zr_last S hK hE (zc_34 w64) dX1_weigh_29 ew65 (fun H locs hE => ?_)
        obtain ⟨x66, ex66, h⟩ := zbdE h
        refine lv_iinc (v := x66) (lv' := [(3, .int x66), (0, .ref (ad 31)), (1, .ref (ad a1)), (2, .int l2)]) hx hb dX1_weigh_30 hl (k := 3) rfl (zinc (k := 1) (by decide) ex66) (by decide) rfl (fun ls hl => ?_)
        refine lv_goto (tgt := 10) hx hb dX1_weigh_33 (by decide) ?_
        exact ih10 l2 x66 w65 ls _ _ h (lv_sub hl [1, 2, 3, 0] rfl) hE
  refine lv_aload_n hx hb dX1_weigh_0 rfl (lv_at hl 0 rfl) ?_
  refine lv_aload_n hx hb dX1_weigh_1 rfl (lv_at hl 1 rfl) ?_
  obtain ⟨x10001, w10002, ew10002, h⟩ := zbd2E h
  refine zr_l (zr_runV (As := []) S hX hE (kX6_allOdds l D tc lo ad fr zq a1 w x10001 w10002 ew10002) zyX6_allOdds qm_X1_41 zcl_X6 rfl (zcW0 hga1 w) ⟨rfl, rfl⟩ ⟨Nat.le_of_ble_eq_true rfl, Nat.le_of_ble_eq_true rfl⟩ rfl hl.1 rfl (Nat.le_of_ble_eq_true rfl) dX1_weigh_2 ⟨Nat.zero_le _, Nat.zero_le _⟩) hE (fun H locs hE => ?_)
  obtain ⟨w10003, ew10003, h⟩ := zbdE h
  refine zr_putL S hK hE zcl_X1 (zc_31 w10002) 8 (Nat.le_of_ble_eq_true rfl) rfl rfl rfl qf_X1_47 dX1_weigh_5 ew10003 (fun H locs hE => ?_)
  refine lv_iconst (v := 0) hx hb dX1_weigh_8 (by decide) ?_
  refine lv_istore_n (lv' := [(3, .int 0), (0, .ref (ad 31)), (1, .ref (ad a1)), (2, .int a2)]) hx hb dX1_weigh_9 rfl hl (by decide) rfl (fun ls hl => ?_)
  exact L10 zfuel a2 0 w10003 ls _ _ h (lv_sub hl [1, 2, 3, 0] rfl) hE
set_option maxHeartbeats 4000000 in
set_option maxRecDepth 100000 in
theorem kX7_isCell (l : Launch) (D : va_G) (tc : Nat → ClassId) (lo : Nat) (ad : Nat → Nat) (fr : va_W) (zq : zz_Q) (a1 : Int32) (w : zz_W) (r : Int32) (w_ : zz_W) (h : fX7_isCell a1 w = some (r, w_)) : zMi l yX7_isCell cX7_isCell 1 (some .boolean) { frames := 1, cells := 0, slots := 0, locals := 22 } D tc lo ad zshC znnC fr zq [.int a1] w r w_ := by
  refine zr_entry (by decide) (Nat.le_of_ble_eq_true rfl) fun p e s m args below meth c ls S hX hr hlk hE hl => ?_
  have S : CallFix p m c cX7_isCell 1 s args (Cond.code yX7_isCell cX7_isCell 1 (some .boolean) :: zw_tb) RX7 := S
  have hx := S.1
  have hb := S.2.1
  have hK := hX.2.1
  have hl : lv_has ls 1 [(0, .int a1)] := hl
  unfold fX7_isCell at h
  refine lv_iload_n hx hb dX7_isCell_0 rfl (lv_at hl 0 rfl) ?_
  refine lv_iconst (v := 0) hx hb dX7_isCell_1 (by decide) ?_
  refine lv_bipush (v := 35) hx hb dX7_isCell_2 (by decide) ?_
  obtain ⟨x10001, w10002, ew10002, h⟩ := zbd2E h
  refine zr_i (zr_runS (As := [.int a1, .int 0, .int 35]) S hX hE (kX7_within l D tc lo ad fr zq a1 0 35 w x10001 w10002 ew10002) zyX7_within qm_X7_61 ⟨rfl, rfl⟩ ⟨Nat.le_of_ble_eq_true rfl, Nat.le_of_ble_eq_true rfl⟩ rfl hl.1 rfl (Nat.le_of_ble_eq_true rfl) dX7_isCell_4 ⟨Nat.zero_le _, Nat.zero_le _⟩) hE (fun H locs hE => ?_)
  obtain ⟨x10003, ex10003, h⟩ := zbdE h
  obtain ⟨ezx10003, enx10003⟩ := zboo_in ex10003
  refine zr_topi (congrArg some ezx10003) ?_
  exact zr_zret S hE hr hlk enx10003 h dX7_isCell_7
