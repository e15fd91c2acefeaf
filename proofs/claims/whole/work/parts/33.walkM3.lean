set_option maxHeartbeats 4000000 in
set_option maxRecDepth 100000 in
theorem kX8_run (l : Launch) (D : va_G) (tc : Nat → ClassId) (lo : Nat) (ad : Nat → Nat) (fr : va_W) (zq : zz_Q) (a1 : Int32) (a2 : Int32) (a3 : Int32) (a4 : Int32) (w : zz_W) (r : Int32) (w_ : zz_W) (h : fX8_run a1 a2 a3 a4 w = some (r, w_)) : zMi l yX8_run cX8_run 5 (some .int) { frames := 3, cells := 0, slots := 0, locals := 63 } D tc lo ad zshM znnM fr zq [.ref (ad 0), .int a1, .int a2, .int a3, .int a4] w r w_ := by
  refine zr_entry (by decide) (Nat.le_of_ble_eq_true rfl) fun p e s m args below meth c ls S hX hr hlk hE hl => ?_
  have S : CallFix p m c cX8_run 5 s args (Cond.code yX8_run cX8_run 5 (some .int) :: zw_tb) RX8 := S
  have hx := S.1
  have hb := S.2.1
  have hK := hX.2.1
  have hl : lv_has ls 5 [(0, .ref (ad 0)), (1, .int a1), (2, .int a2), (3, .int a3), (4, .int a4)] := hl
  unfold fX8_run at h
  refine lv_iload_n hx hb dX8_run_0 rfl (lv_at hl 1 rfl) ?_
  refine lv_iconst (v := 0) hx hb dX8_run_1 (by decide) ?_
  refine lv_iconst (v := 5) hx hb dX8_run_2 (by decide) ?_
  obtain ⟨x10001, w10002, ew10002, h⟩ := zbd2E h
  refine zr_i (zr_runS (As := [.int a1, .int 0, .int 5]) S hX hE (kX8_in l D tc lo ad fr zq a1 0 5 w x10001 w10002 ew10002) zyX8_in qm_X8_81 ⟨rfl, rfl⟩ ⟨Nat.le_of_ble_eq_true rfl, Nat.le_of_ble_eq_true rfl⟩ rfl hl.1 rfl (Nat.le_of_ble_eq_true rfl) dX8_run_3 ⟨Nat.zero_le _, Nat.zero_le _⟩) hE (fun H locs hE => ?_)
  refine lv_if_eq (tgt := 34) hx hb dX8_run_6 (by decide) (fun c10003 => ?_) (fun c10003 => ?_)
  · have h := zif c10003 h
    refine zr_ldc S qc_X8_97 dX8_run_34 ?_
    exact zr_iret S hE hr hlk h dX8_run_36
  · have h := zif' c10003 h
    refine lv_iconst (v := 1) hx hb dX8_run_9 (by decide) ?_
    refine lv_iload_n hx hb dX8_run_10 rfl (lv_at hl 2 rfl) ?_
    obtain ⟨x10004, w10005, ew10005, h⟩ := zbd2E h
    refine zr_i (zr_runS (As := [.int 1, .int a2]) S hX hE (kX8_isOf l D tc lo ad fr zq 1 a2 w10002 x10004 w10005 ew10005) zyX8_isOf qm_X8_93 ⟨rfl, rfl⟩ ⟨Nat.le_of_ble_eq_true rfl, Nat.le_of_ble_eq_true rfl⟩ rfl hl.1 rfl (Nat.le_of_ble_eq_true rfl) dX8_run_11 ⟨Nat.zero_le _, Nat.zero_le _⟩) hE (fun H locs hE => ?_)
    refine lv_if_eq (tgt := 34) hx hb dX8_run_14 (by decide) (fun c10006 => ?_) (fun c10006 => ?_)
    · have h := zif c10006 h
      refine zr_ldc S qc_X8_97 dX8_run_34 ?_
      exact zr_iret S hE hr hlk h dX8_run_36
    · have h := zif' c10006 h
      refine lv_iconst (v := 2) hx hb dX8_run_17 (by decide) ?_
      refine lv_iload_n hx hb dX8_run_18 rfl (lv_at hl 3 rfl) ?_
      obtain ⟨x10007, w10008, ew10008, h⟩ := zbd2E h
      refine zr_i (zr_runS (As := [.int 2, .int a3]) S hX hE (kX8_isOf l D tc lo ad fr zq 2 a3 w10005 x10007 w10008 ew10008) zyX8_isOf qm_X8_93 ⟨rfl, rfl⟩ ⟨Nat.le_of_ble_eq_true rfl, Nat.le_of_ble_eq_true rfl⟩ rfl hl.1 rfl (Nat.le_of_ble_eq_true rfl) dX8_run_19 ⟨Nat.zero_le _, Nat.zero_le _⟩) hE (fun H locs hE => ?_)
      refine lv_if_eq (tgt := 34) hx hb dX8_run_22 (by decide) (fun c10009 => ?_) (fun c10009 => ?_)
      · have h := zif c10009 h
        refine zr_ldc S qc_X8_97 dX8_run_34 ?_
        exact zr_iret S hE hr hlk h dX8_run_36
      · have h := zif' c10009 h
        refine lv_iconst (v := 3) hx hb dX8_run_25 (by decide) ?_
        refine lv_iload hx hb dX8_run_26 (lv_at hl 4 rfl) ?_
        obtain ⟨x10010, w10011, ew10011, h⟩ := zbd2E h
        refine zr_i (zr_runS (As := [.int 3, .int a4]) S hX hE (kX8_isOf l D tc lo ad fr zq 3 a4 w10008 x10010 w10011 ew10011) zyX8_isOf qm_X8_93 ⟨rfl, rfl⟩ ⟨Nat.le_of_ble_eq_true rfl, Nat.le_of_ble_eq_true rfl⟩ rfl hl.1 rfl (Nat.le_of_ble_eq_true rfl) dX8_run_28 ⟨Nat.zero_le _, Nat.zero_le _⟩) hE (fun H locs hE => ?_)
        refine lv_if_ne (tgt := 37) hx hb dX8_run_31 (by decide) (fun c10012 => ?_) (fun c10012 => ?_)
        · have h := zif' c10012 h
          refine lv_aload_n hx hb dX8_run_37 rfl (lv_at hl 0 rfl) ?_
          refine zr_getA S hK hE zcl_X8 (zm_0 w10011) 0 (Nat.le_of_ble_eq_true rfl) (q := 1) rfl qf_X8_9 dX8_run_38 ?_
          refine lv_iconst (v := 1) hx hb dX8_run_41 (by decide) ?_
          obtain ⟨x10013, ex10013, h⟩ := zbdE h
          refine zr_iald S hK hE (zm_1 w10011) dX8_run_42 ex10013 ?_
          refine lv_bipush (v := 10) hx hb dX8_run_43 (by decide) ?_
          refine lv_icmp_ne (tgt := 53) hx hb dX8_run_45 (by decide) (fun c10014 => ?_) (fun c10014 => ?_)
          · have h := zif' c10014 h
            refine lv_aload_n hx hb dX8_run_53 rfl (lv_at hl 0 rfl) ?_
            refine lv_iload_n hx hb dX8_run_54 rfl (lv_at hl 1 rfl) ?_
            refine lv_iload_n hx hb dX8_run_55 rfl (lv_at hl 2 rfl) ?_
            refine lv_iload_n hx hb dX8_run_56 rfl (lv_at hl 3 rfl) ?_
            refine lv_iload hx hb dX8_run_57 (lv_at hl 4 rfl) ?_
            obtain ⟨x10015, w10016, ew10016, h⟩ := zbd2E h
            refine zr_i (zr_runV (As := [.int a1, .int a2, .int a3, .int a4]) S hX hE (kX8_comes l D tc lo ad fr zq a1 a2 a3 a4 w10011 x10015 w10016 ew10016) zyX8_comes qm_X8_99 zcl_X8 rfl (zm_0 w10011) ⟨rfl, rfl⟩ ⟨Nat.le_of_ble_eq_true rfl, Nat.le_of_ble_eq_true rfl⟩ rfl hl.1 rfl (Nat.le_of_ble_eq_true rfl) dX8_run_59 ⟨Nat.zero_le _, Nat.zero_le _⟩) hE (fun H locs hE => ?_)
            exact zr_iret S hE hr hlk h dX8_run_62
          · have h := zif c10014 h
            refine zr_ldc S qc_X8_98 dX8_run_48 ?_
            refine lv_goto (tgt := 62) hx hb dX8_run_50 (by decide) ?_
            exact zr_iret S hE hr hlk h dX8_run_62
        · have h := zif c10012 h
          refine zr_ldc S qc_X8_97 dX8_run_34 ?_
          exact zr_iret S hE hr hlk h dX8_run_36
set_option maxHeartbeats 4000000 in
set_option maxRecDepth 100000 in
theorem kX8_safe (l : Launch) (D : va_G) (tc : Nat → ClassId) (lo : Nat) (ad : Nat → Nat) (fr : va_W) (zq : zz_Q) (a1 : Int32) (a2 : Int32) (w : zz_W) (r : Int32) (w_ : zz_W) (h : fX8_safe a1 a2 w = some (r, w_)) : zMi l yX8_safe cX8_safe 4 (some .int) { frames := 5, cells := 0, slots := 0, locals := 113 } D tc lo ad zshM znnM fr zq [.ref (ad 0), .int a1, .int a2] w r w_ := by
  refine zr_entry (by decide) (Nat.le_of_ble_eq_true rfl) fun p e s m args below meth c ls S hX hr hlk hE hl => ?_
  have S : CallFix p m c cX8_safe 4 s args (Cond.code yX8_safe cX8_safe 4 (some .int) :: zw_tb) RX8 := S
  have hx := S.1
  have hb := S.2.1
  have hK := hX.2.1
  have hl : lv_has ls 4 [(0, .ref (ad 0)), (1, .int a1), (2, .int a2)] := hl
  unfold fX8_safe at h
  have L35 : ∀ (n : Nat) (l1 : Int32) (l2 : Int32) (l3 : Int32) (w : zz_W) (ls : Array Slot) (H : Heap) (locs : List Loc), fX8_safe_35 a1 a2 n l1 l2 l3 w = some (r, w_) → lv_has ls 4 [(0, .ref (ad 0)), (1, .int l1), (2, .int l2), (3, .int l3)] → zE D tc lo ad zshM znnM fr w s.heap H locs → W p l e { frames := 5, cells := 0, slots := 0, locals := 113 } s m args below meth c H locs 0 0 (zZi D tc lo ad zshM znnM fr below args s r w_) (F0 m 35 ls []) := by
    intro n35
    induction n35 with
    | zero => intro l1 l2 l3 w ls H locs h hl hE; rw [fX8_safe_35] at h; cases h
    | succ n35 ih35 =>
      intro l1 l2 l3 w ls H locs h hl hE
      rw [fX8_safe_35] at h
      refine lv_iload_n hx hb dX8_safe_35 rfl (lv_at hl 3 rfl) ?_
      refine lv_if_le (tgt := 55) hx hb dX8_safe_36 (by decide) (fun c27 => ?_) (fun c27 => ?_)
      · have h := zif c27 h
        refine lv_iload_n hx hb dX8_safe_55 rfl (lv_at hl 3 rfl) ?_
        exact zr_iret S hE hr hlk h dX8_safe_56
      · have h := zif' c27 h
        refine lv_aload_n hx hb dX8_safe_39 rfl (lv_at hl 0 rfl) ?_
        refine lv_iload_n hx hb dX8_safe_40 rfl (lv_at hl 1 rfl) ?_
        refine lv_iload_n hx hb dX8_safe_41 rfl (lv_at hl 3 rfl) ?_
        obtain ⟨x28, w29, ew29, h⟩ := zbd2E h
        refine zr_i (zr_runV (As := [.int l1, .int l3]) S hX hE (kX8_riskAt l D tc lo ad fr zq l1 l3 w x28 w29 ew29) zyX8_riskAt qm_X8_194 zcl_X8 rfl (zm_0 w) ⟨rfl, rfl⟩ ⟨Nat.le_of_ble_eq_true rfl, Nat.le_of_ble_eq_true rfl⟩ rfl hl.1 rfl (Nat.le_of_ble_eq_true rfl) dX8_safe_42 ⟨Nat.zero_le _, Nat.zero_le _⟩) hE (fun H locs hE => ?_)
        refine lv_iload_n hx hb dX8_safe_45 rfl (lv_at hl 2 rfl) ?_
        refine lv_icmp_le (tgt := 55) hx hb dX8_safe_46 (by decide) (fun c30 => ?_) (fun c30 => ?_)
        · have h := zif c30 h
          refine lv_iload_n hx hb dX8_safe_55 rfl (lv_at hl 3 rfl) ?_
          exact zr_iret S hE hr hlk h dX8_safe_56
        · have h := zif' c30 h
          obtain ⟨x31, ex31, h⟩ := zbdE h
          refine lv_iinc (v := x31) (lv' := [(3, .int x31), (0, .ref (ad 0)), (1, .int l1), (2, .int l2)]) hx hb dX8_safe_49 hl (k := 3) rfl (zinc (k := (-1)) (by decide) ex31) (by decide) rfl (fun ls hl => ?_)
          refine lv_goto (tgt := 35) hx hb dX8_safe_52 (by decide) ?_
          exact ih35 l1 l2 x31 w29 ls _ _ h (lv_sub hl [1, 2, 3, 0] rfl) hE
  refine lv_iload_n hx hb dX8_safe_0 rfl (lv_at hl 1 rfl) ?_
  obtain ⟨x10001, w10002, ew10002, h⟩ := zbd2E h
  refine zr_i (zr_runS (As := [.int a1]) S hX hE (kX8_isCell l D tc lo ad fr zq a1 w x10001 w10002 ew10002) zyX8_isCell qm_X8_89 ⟨rfl, rfl⟩ ⟨Nat.le_of_ble_eq_true rfl, Nat.le_of_ble_eq_true rfl⟩ rfl hl.1 rfl (Nat.le_of_ble_eq_true rfl) dX8_safe_1 ⟨Nat.zero_le _, Nat.zero_le _⟩) hE (fun H locs hE => ?_)
  refine lv_if_eq (tgt := 17) hx hb dX8_safe_4 (by decide) (fun c10003 => ?_) (fun c10003 => ?_)
  · have h := zif c10003 h
    refine zr_ldc S qc_X8_97 dX8_safe_17 ?_
    exact zr_iret S hE hr hlk h dX8_safe_19
  · have h := zif' c10003 h
    refine lv_iload_n hx hb dX8_safe_7 rfl (lv_at hl 2 rfl) ?_
    refine lv_iconst (v := 0) hx hb dX8_safe_8 (by decide) ?_
    refine zr_ldc S qc_X8_204 dX8_safe_9 ?_
    obtain ⟨x10004, w10005, ew10005, h⟩ := zbd2E h
    refine zr_i (zr_runS (As := [.int a2, .int 0, .int 99999]) S hX hE (kX8_in l D tc lo ad fr zq a2 0 99999 w10002 x10004 w10005 ew10005) zyX8_in qm_X8_81 ⟨rfl, rfl⟩ ⟨Nat.le_of_ble_eq_true rfl, Nat.le_of_ble_eq_true rfl⟩ rfl hl.1 rfl (Nat.le_of_ble_eq_true rfl) dX8_safe_11 ⟨Nat.zero_le _, Nat.zero_le _⟩) hE (fun H locs hE => ?_)
    refine lv_if_ne (tgt := 20) hx hb dX8_safe_14 (by decide) (fun c10006 => ?_) (fun c10006 => ?_)
    · have h := zif' c10006 h
      refine lv_aload_n hx hb dX8_safe_20 rfl (lv_at hl 0 rfl) ?_
      refine zr_getA S hK hE zcl_X8 (zm_0 w10005) 0 (Nat.le_of_ble_eq_true rfl) (q := 1) rfl qf_X8_9 dX8_safe_21 ?_
      refine lv_iconst (v := 1) hx hb dX8_safe_24 (by decide) ?_
      obtain ⟨x10007, ex10007, h⟩ := zbdE h
      refine zr_iald S hK hE (zm_1 w10005) dX8_safe_25 ex10007 ?_
      refine lv_if_ne (tgt := 32) hx hb dX8_safe_26 (by decide) (fun c10008 => ?_) (fun c10008 => ?_)
      · have h := zif' c10008 h
        refine lv_bipush (v := 9) hx hb dX8_safe_32 (by decide) ?_
        refine lv_istore_n (lv' := [(3, .int 9), (0, .ref (ad 0)), (1, .int a1), (2, .int a2)]) hx hb dX8_safe_34 rfl hl (by decide) rfl (fun ls hl => ?_)
        exact L35 zfuel a1 a2 9 w10005 ls _ _ h (lv_sub hl [1, 2, 3, 0] rfl) hE
      · have h := zif c10008 h
        refine zr_ldc S qc_X8_176 dX8_safe_29 ?_
        exact zr_iret S hE hr hlk h dX8_safe_31
    · have h := zif c10006 h
      refine zr_ldc S qc_X8_97 dX8_safe_17 ?_
      exact zr_iret S hE hr hlk h dX8_safe_19
set_option maxHeartbeats 4000000 in
set_option maxRecDepth 100000 in
theorem kX8_seed (l : Launch) (D : va_G) (tc : Nat → ClassId) (lo : Nat) (ad : Nat → Nat) (fr : va_W) (zq : zz_Q) (a1 : Int32) (w : zz_W) (r : Int32) (w_ : zz_W) (h : fX8_seed a1 w = some (r, w_)) : zMi l yX8_seed cX8_seed 2 (some .int) { frames := 1, cells := 0, slots := 0, locals := 23 } D tc lo ad zshM znnM fr zq [.ref (ad 0), .int a1] w r w_ := by
  refine zr_entry (by decide) (Nat.le_of_ble_eq_true rfl) fun p e s m args below meth c ls S hX hr hlk hE hl => ?_
  have S : CallFix p m c cX8_seed 2 s args (Cond.code yX8_seed cX8_seed 2 (some .int) :: zw_tb) RX8 := S
  have hx := S.1
  have hb := S.2.1
  have hK := hX.2.1
  have hl : lv_has ls 2 [(0, .ref (ad 0)), (1, .int a1)] := hl
  unfold fX8_seed at h
  refine lv_aload_n hx hb dX8_seed_0 rfl (lv_at hl 0 rfl) ?_
  refine lv_iconst (v := 0) hx hb dX8_seed_1 (by decide) ?_
  refine lv_iload_n hx hb dX8_seed_2 rfl (lv_at hl 1 rfl) ?_
  obtain ⟨x10001, w10002, ew10002, h⟩ := zbd2E h
  refine zr_i (zr_runV (As := [.int 0, .int a1]) S hX hE (kX8_becomes l D tc lo ad fr zq 0 a1 w x10001 w10002 ew10002) zyX8_becomes qm_X8_137 zcl_X8 rfl (zm_0 w) ⟨rfl, rfl⟩ ⟨Nat.le_of_ble_eq_true rfl, Nat.le_of_ble_eq_true rfl⟩ rfl hl.1 rfl (Nat.le_of_ble_eq_true rfl) dX8_seed_3 ⟨Nat.zero_le _, Nat.zero_le _⟩) hE (fun H locs hE => ?_)
  exact zr_iret S hE hr hlk h dX8_seed_6
set_option maxHeartbeats 4000000 in
set_option maxRecDepth 100000 in
theorem kX8_set (l : Launch) (D : va_G) (tc : Nat → ClassId) (lo : Nat) (ad : Nat → Nat) (fr : va_W) (zq : zz_Q) (a1 : Int32) (a2 : Int32) (a3 : Int32) (w : zz_W) (r : Int32) (w_ : zz_W) (h : fX8_set a1 a2 a3 w = some (r, w_)) : zMi l yX8_set cX8_set 4 (some .int) { frames := 3, cells := 0, slots := 0, locals := 63 } D tc lo ad zshM znnM fr zq [.ref (ad 0), .int a1, .int a2, .int a3] w r w_ := by
  refine zr_entry (by decide) (Nat.le_of_ble_eq_true rfl) fun p e s m args below meth c ls S hX hr hlk hE hl => ?_
  have S : CallFix p m c cX8_set 4 s args (Cond.code yX8_set cX8_set 4 (some .int) :: zw_tb) RX8 := S
  have hx := S.1
  have hb := S.2.1
  have hK := hX.2.1
  have hl : lv_has ls 4 [(0, .ref (ad 0)), (1, .int a1), (2, .int a2), (3, .int a3)] := hl
  unfold fX8_set at h
  refine lv_aload_n hx hb dX8_set_0 rfl (lv_at hl 0 rfl) ?_
  refine lv_iload_n hx hb dX8_set_1 rfl (lv_at hl 1 rfl) ?_
  obtain ⟨x10001, w10002, ew10002, h⟩ := zbd2E h
  refine zr_i (zr_runV (As := [.int a1]) S hX hE (kX8_isRun l D tc lo ad fr zq a1 w x10001 w10002 ew10002) zyX8_isRun qm_X8_121 zcl_X8 rfl (zm_0 w) ⟨rfl, rfl⟩ ⟨Nat.le_of_ble_eq_true rfl, Nat.le_of_ble_eq_true rfl⟩ rfl hl.1 rfl (Nat.le_of_ble_eq_true rfl) dX8_set_2 ⟨Nat.zero_le _, Nat.zero_le _⟩) hE (fun H locs hE => ?_)
  refine lv_if_eq (tgt := 41) hx hb dX8_set_5 (by decide) (fun c10003 => ?_) (fun c10003 => ?_)
  · have h := zif c10003 h
    refine zr_ldc S qc_X8_97 dX8_set_41 ?_
    exact zr_iret S hE hr hlk h dX8_set_43
  · have h := zif' c10003 h
    refine lv_iload_n hx hb dX8_set_8 rfl (lv_at hl 2 rfl) ?_
    refine lv_iconst (v := 1) hx hb dX8_set_9 (by decide) ?_
    refine lv_iconst (v := 3) hx hb dX8_set_10 (by decide) ?_
    obtain ⟨x10004, w10005, ew10005, h⟩ := zbd2E h
    refine zr_i (zr_runS (As := [.int a2, .int 1, .int 3]) S hX hE (kX8_in l D tc lo ad fr zq a2 1 3 w10002 x10004 w10005 ew10005) zyX8_in qm_X8_81 ⟨rfl, rfl⟩ ⟨Nat.le_of_ble_eq_true rfl, Nat.le_of_ble_eq_true rfl⟩ rfl hl.1 rfl (Nat.le_of_ble_eq_true rfl) dX8_set_11 ⟨Nat.zero_le _, Nat.zero_le _⟩) hE (fun H locs hE => ?_)
    refine lv_if_eq (tgt := 41) hx hb dX8_set_14 (by decide) (fun c10006 => ?_) (fun c10006 => ?_)
    · have h := zif c10006 h
      refine zr_ldc S qc_X8_97 dX8_set_41 ?_
      exact zr_iret S hE hr hlk h dX8_set_43
    · have h := zif' c10006 h
      refine lv_iload_n hx hb dX8_set_17 rfl (lv_at hl 2 rfl) ?_
      refine lv_iload_n hx hb dX8_set_18 rfl (lv_at hl 3 rfl) ?_
      obtain ⟨x10007, w10008, ew10008, h⟩ := zbd2E h
      refine zr_i (zr_runS (As := [.int a2, .int a3]) S hX hE (kX8_isOf l D tc lo ad fr zq a2 a3 w10005 x10007 w10008 ew10008) zyX8_isOf qm_X8_93 ⟨rfl, rfl⟩ ⟨Nat.le_of_ble_eq_true rfl, Nat.le_of_ble_eq_true rfl⟩ rfl hl.1 rfl (Nat.le_of_ble_eq_true rfl) dX8_set_19 ⟨Nat.zero_le _, Nat.zero_le _⟩) hE (fun H locs hE => ?_)
      refine lv_if_eq (tgt := 41) hx hb dX8_set_22 (by decide) (fun c10009 => ?_) (fun c10009 => ?_)
      · have h := zif c10009 h
        refine zr_ldc S qc_X8_97 dX8_set_41 ?_
        exact zr_iret S hE hr hlk h dX8_set_43
      · have h := zif' c10009 h
        refine lv_aload_n hx hb dX8_set_25 rfl (lv_at hl 0 rfl) ?_
        refine lv_bipush (v := 14) hx hb dX8_set_26 (by decide) ?_
        refine lv_iconst (v := 5) hx hb dX8_set_28 (by decide) ?_
        refine lv_iload_n hx hb dX8_set_29 rfl (lv_at hl 1 rfl) ?_
        refine lv_imul hx hb dX8_set_30 ?_
        refine lv_iadd hx hb dX8_set_31 ?_
        refine lv_iload_n hx hb dX8_set_32 rfl (lv_at hl 2 rfl) ?_
        refine lv_iadd hx hb dX8_set_33 ?_
        refine lv_iload_n hx hb dX8_set_34 rfl (lv_at hl 3 rfl) ?_
        obtain ⟨x10010, w10011, ew10011, h⟩ := zbd2E h
        refine zr_i (zr_runV (As := [.int ((14 + (5 * a1)) + a2), .int a3]) S hX hE (kX8_becomes l D tc lo ad fr zq ((14 + (5 * a1)) + a2) a3 w10008 x10010 w10011 ew10011) zyX8_becomes qm_X8_137 zcl_X8 rfl (zm_0 w10008) ⟨rfl, rfl⟩ ⟨Nat.le_of_ble_eq_true rfl, Nat.le_of_ble_eq_true rfl⟩ rfl hl.1 rfl (Nat.le_of_ble_eq_true rfl) dX8_set_35 ⟨Nat.zero_le _, Nat.zero_le _⟩) hE (fun H locs hE => ?_)
        refine lv_goto (tgt := 43) hx hb dX8_set_38 (by decide) ?_
        exact zr_iret S hE hr hlk h dX8_set_43
set_option maxHeartbeats 4000000 in
set_option maxRecDepth 100000 in
theorem kX8_settle (l : Launch) (D : va_G) (tc : Nat → ClassId) (lo : Nat) (ad : Nat → Nat) (fr : va_W) (zq : zz_Q) (a1 : Int32) (w : zz_W) (w_ : zz_W) (h : fX8_settle a1 w = some w_) : zMv l yX8_settle cX8_settle 2 none { frames := 1, cells := 0, slots := 0, locals := 20 } D tc lo ad zshM znnM fr zq [.ref (ad 0), .int a1] w w_ := by
  refine zr_entry (by decide) (Nat.le_of_ble_eq_true rfl) fun p e s m args below meth c ls S hX hr hlk hE hl => ?_
  have S : CallFix p m c cX8_settle 2 s args (Cond.code yX8_settle cX8_settle 2 none :: zw_tb) RX8 := S
  have hx := S.1
  have hb := S.2.1
  have hK := hX.2.1
  have hl : lv_has ls 2 [(0, .ref (ad 0)), (1, .int a1)] := hl
  unfold fX8_settle at h
  have L0 : ∀ (n : Nat) (l1 : Int32) (w : zz_W) (ls : Array Slot) (H : Heap) (locs : List Loc), fX8_settle_0 a1 n l1 w = some w_ → lv_has ls 2 [(0, .ref (ad 0)), (1, .int l1)] → zE D tc lo ad zshM znnM fr w s.heap H locs → W p l e { frames := 1, cells := 0, slots := 0, locals := 20 } s m args below meth c H locs 0 0 (zZv D tc lo ad zshM znnM fr below args s w_) (F0 m 0 ls []) := by
    intro n0
    induction n0 with
    | zero => intro l1 w ls H locs h hl hE; rw [fX8_settle_0] at h; cases h
    | succ n0 ih0 =>
      intro l1 w ls H locs h hl hE
      rw [fX8_settle_0] at h
      refine lv_aload_n hx hb dX8_settle_0 rfl (lv_at hl 0 rfl) ?_
      obtain ⟨x55, ex55, h⟩ := zbdE h
      refine zr_getI S hK hE zcl_X8 (zm_0 w) 21 (Nat.le_of_ble_eq_true rfl) rfl qf_X8_253 dX8_settle_1 ex55 ?_
      refine lv_if_le (tgt := 82) hx hb dX8_settle_4 (by decide) (fun c56 => ?_) (fun c56 => ?_)
      · have h := zif c56 h
        exact zr_vret S hE hr hlk h dX8_settle_82
      · have h := zif' c56 h
        refine lv_aload_n hx hb dX8_settle_7 rfl (lv_at hl 0 rfl) ?_
        refine zr_getA S hK hE zcl_X8 (zm_0 w) 20 (Nat.le_of_ble_eq_true rfl) (q := 11) rfl qf_X8_41 dX8_settle_8 ?_
        refine lv_aload_n hx hb dX8_settle_11 rfl (lv_at hl 0 rfl) ?_
        obtain ⟨x57, ex57, h⟩ := zbdE h
        refine zr_getI S hK hE zcl_X8 (zm_0 w) 21 (Nat.le_of_ble_eq_true rfl) rfl qf_X8_253 dX8_settle_12 ex57 ?_
        refine lv_iconst (v := 1) hx hb dX8_settle_15 (by decide) ?_
        refine lv_isub hx hb dX8_settle_16 ?_
        obtain ⟨x58, ex58, h⟩ := zbdE h
        refine zr_iald S hK hE (zm_11 w) dX8_settle_17 ex58 ?_
        refine lv_bipush (v := (-11)) hx hb dX8_settle_18 (by decide) ?_
        refine lv_icmp_eq (tgt := 82) hx hb dX8_settle_20 (by decide) (fun c59 => ?_) (fun c59 => ?_)
        · have h := zif c59 h
          exact zr_vret S hE hr hlk h dX8_settle_82
        · have h := zif' c59 h
          refine lv_aload_n hx hb dX8_settle_23 rfl (lv_at hl 0 rfl) ?_
          refine zr_getA S hK hE zcl_X8 (zm_0 w) 20 (Nat.le_of_ble_eq_true rfl) (q := 11) rfl qf_X8_41 dX8_settle_24 ?_
          refine lv_aload_n hx hb dX8_settle_27 rfl (lv_at hl 0 rfl) ?_
          obtain ⟨x60, ex60, h⟩ := zbdE h
          refine zr_getI S hK hE zcl_X8 (zm_0 w) 21 (Nat.le_of_ble_eq_true rfl) rfl qf_X8_253 dX8_settle_28 ex60 ?_
          refine lv_iconst (v := 1) hx hb dX8_settle_31 (by decide) ?_
          refine lv_isub hx hb dX8_settle_32 ?_
          obtain ⟨x61, ex61, h⟩ := zbdE h
          refine zr_iald S hK hE (zm_11 w) dX8_settle_33 ex61 ?_
          obtain ⟨x62, w63, ew63, h⟩ := zbd2E h
          refine zr_i (zr_runS (As := [.int x61]) S hX hE (kX8_rank l D tc lo ad fr zq x61 w x62 w63 ew63) zyX8_rank qm_X8_256 ⟨rfl, rfl⟩ ⟨Nat.le_of_ble_eq_true rfl, Nat.le_of_ble_eq_true rfl⟩ rfl hl.1 rfl (Nat.le_of_ble_eq_true rfl) dX8_settle_34 ⟨Nat.zero_le _, Nat.zero_le _⟩) hE (fun H locs hE => ?_)
          refine lv_iload_n hx hb dX8_settle_37 rfl (lv_at hl 1 rfl) ?_
          refine lv_icmp_lt (tgt := 82) hx hb dX8_settle_38 (by decide) (fun c64 => ?_) (fun c64 => ?_)
          · have h := zif c64 h
            exact zr_vret S hE hr hlk h dX8_settle_82
          · have h := zif' c64 h
            refine lv_aload_n hx hb dX8_settle_41 rfl (lv_at hl 0 rfl) ?_
            refine lv_dup hx hb dX8_settle_42 rfl ?_
            obtain ⟨x65, ex65, h⟩ := zbdE h
            refine zr_getI S hK hE zcl_X8 (zm_0 w63) 21 (Nat.le_of_ble_eq_true rfl) rfl qf_X8_253 dX8_settle_43 ex65 ?_
            refine lv_iconst (v := 1) hx hb dX8_settle_46 (by decide) ?_
            refine lv_isub hx hb dX8_settle_47 ?_
            obtain ⟨w66, ew66, h⟩ := zbdE h
            refine zr_putI S hK hE zcl_X8 (zm_0 w63) 21 (Nat.le_of_ble_eq_true rfl) rfl rfl rfl qf_X8_253 dX8_settle_48 ew66 (fun H locs hE => ?_)
            refine lv_aload_n hx hb dX8_settle_51 rfl (lv_at hl 0 rfl) ?_
            refine zr_getA S hK hE zcl_X8 (zm_0 w66) 17 (Nat.le_of_ble_eq_true rfl) (q := 10) rfl qf_X8_38 dX8_settle_52 ?_
            refine lv_aload_n hx hb dX8_settle_55 rfl (lv_at hl 0 rfl) ?_
            obtain ⟨x67, ex67, h⟩ := zbdE h
            refine zr_getI S hK hE zcl_X8 (zm_0 w66) 18 (Nat.le_of_ble_eq_true rfl) rfl qf_X8_259 dX8_settle_56 ex67 ?_
            refine lv_aload_n hx hb dX8_settle_59 rfl (lv_at hl 0 rfl) ?_
            refine zr_getA S hK hE zcl_X8 (zm_0 w66) 20 (Nat.le_of_ble_eq_true rfl) (q := 11) rfl qf_X8_41 dX8_settle_60 ?_
            refine lv_aload_n hx hb dX8_settle_63 rfl (lv_at hl 0 rfl) ?_
            obtain ⟨x68, ex68, h⟩ := zbdE h
            refine zr_getI S hK hE zcl_X8 (zm_0 w66) 21 (Nat.le_of_ble_eq_true rfl) rfl qf_X8_253 dX8_settle_64 ex68 ?_
            obtain ⟨x69, ex69, h⟩ := zbdE h
            refine zr_iald S hK hE (zm_11 w66) dX8_settle_67 ex69 ?_
            obtain ⟨w70, ew70, h⟩ := zbdE h
            refine zr_iast S hK hE (zm_10 w66) dX8_settle_68 ew70 (fun H locs hE => ?_)
            refine lv_aload_n hx hb dX8_settle_69 rfl (lv_at hl 0 rfl) ?_
            refine lv_dup hx hb dX8_settle_70 rfl ?_
            obtain ⟨x71, ex71, h⟩ := zbdE h
            refine zr_getI S hK hE zcl_X8 (zm_0 w70) 18 (Nat.le_of_ble_eq_true rfl) rfl qf_X8_259 dX8_settle_71 ex71 ?_
            refine lv_iconst (v := 1) hx hb dX8_settle_74 (by decide) ?_
            refine lv_iadd hx hb dX8_settle_75 ?_
            obtain ⟨w72, ew72, h⟩ := zbdE h
            refine zr_putI S hK hE zcl_X8 (zm_0 w70) 18 (Nat.le_of_ble_eq_true rfl) rfl rfl rfl qf_X8_259 dX8_settle_76 ew72 (fun H locs hE => ?_)
            refine lv_goto (tgt := 0) hx hb dX8_settle_79 (by decide) ?_
            exact ih0 l1 w72 ls _ _ h (lv_sub hl [0, 1] rfl) hE
  refine lv_aload_n hx hb dX8_settle_0 rfl (lv_at hl 0 rfl) ?_
  obtain ⟨x10001, ex10001, h⟩ := zbdE h
  refine zr_getI S hK hE zcl_X8 (zm_0 w) 21 (Nat.le_of_ble_eq_true rfl) rfl qf_X8_253 dX8_settle_1 ex10001 ?_
  refine lv_if_le (tgt := 82) hx hb dX8_settle_4 (by decide) (fun c10002 => ?_) (fun c10002 => ?_)
  · have h := zif c10002 h
    exact zr_vret S hE hr hlk h dX8_settle_82
  · have h := zif' c10002 h
    refine lv_aload_n hx hb dX8_settle_7 rfl (lv_at hl 0 rfl) ?_
    refine zr_getA S hK hE zcl_X8 (zm_0 w) 20 (Nat.le_of_ble_eq_true rfl) (q := 11) rfl qf_X8_41 dX8_settle_8 ?_
    refine lv_aload_n hx hb dX8_settle_11 rfl (lv_at hl 0 rfl) ?_
    obtain ⟨x10003, ex10003, h⟩ := zbdE h
    refine zr_getI S hK hE zcl_X8 (zm_0 w) 21 (Nat.le_of_ble_eq_true rfl) rfl qf_X8_253 dX8_settle_12 ex10003 ?_
    refine lv_iconst (v := 1) hx hb dX8_settle_15 (by decide) ?_
    refine lv_isub hx hb dX8_settle_16 ?_
    obtain ⟨x10004, ex10004, h⟩ := zbdE h
    refine zr_iald S hK hE (zm_11 w) dX8_settle_17 ex10004 ?_
    refine lv_bipush (v := (-11)) hx hb dX8_settle_18 (by decide) ?_
    refine lv_icmp_eq (tgt := 82) hx hb dX8_settle_20 (by decide) (fun c10005 => ?_) (fun c10005 => ?_)
    · have h := zif c10005 h
      exact zr_vret S hE hr hlk h dX8_settle_82
    · have h := zif' c10005 h
      refine lv_aload_n hx hb dX8_settle_23 rfl (lv_at hl 0 rfl) ?_
      refine zr_getA S hK hE zcl_X8 (zm_0 w) 20 (Nat.le_of_ble_eq_true rfl) (q := 11) rfl qf_X8_41 dX8_settle_24 ?_
      refine lv_aload_n hx hb dX8_settle_27 rfl (lv_at hl 0 rfl) ?_
      obtain ⟨x10006, ex10006, h⟩ := zbdE h
      refine zr_getI S hK hE zcl_X8 (zm_0 w) 21 (Nat.le_of_ble_eq_true rfl) rfl qf_X8_253 dX8_settle_28 ex10006 ?_
      refine lv_iconst (v := 1) hx hb dX8_settle_31 (by decide) ?_
      refine lv_isub hx hb dX8_settle_32 ?_
      obtain ⟨x10007, ex10007, h⟩ := zbdE h
      refine zr_iald S hK hE (zm_11 w) dX8_settle_33 ex10007 ?_
      obtain ⟨x10008, w10009, ew10009, h⟩ := zbd2E h
      refine zr_i (zr_runS (As := [.int x10007]) S hX hE (kX8_rank l D tc lo ad fr zq x10007 w x10008 w10009 ew10009) zyX8_rank qm_X8_256 ⟨rfl, rfl⟩ ⟨Nat.le_of_ble_eq_true rfl, Nat.le_of_ble_eq_true rfl⟩ rfl hl.1 rfl (Nat.le_of_ble_eq_true rfl) dX8_settle_34 ⟨Nat.zero_le _, Nat.zero_le _⟩) hE (fun H locs hE => ?_)
      refine lv_iload_n hx hb dX8_settle_37 rfl (lv_at hl 1 rfl) ?_
      refine lv_icmp_lt (tgt := 82) hx hb dX8_settle_38 (by decide) (fun c10010 => ?_) (fun c10010 => ?_)
      · have h := zif c10010 h
        exact zr_vret S hE hr hlk h dX8_settle_82
      · have h := zif' c10010 h
        refine lv_aload_n hx hb dX8_settle_41 rfl (lv_at hl 0 rfl) ?_
        refine lv_dup hx hb dX8_settle_42 rfl ?_
        obtain ⟨x10011, ex10011, h⟩ := zbdE h
        refine zr_getI S hK hE zcl_X8 (zm_0 w10009) 21 (Nat.le_of_ble_eq_true rfl) rfl qf_X8_253 dX8_settle_43 ex10011 ?_
        refine lv_iconst (v := 1) hx hb dX8_settle_46 (by decide) ?_
        refine lv_isub hx hb dX8_settle_47 ?_
        obtain ⟨w10012, ew10012, h⟩ := zbdE h
        refine zr_putI S hK hE zcl_X8 (zm_0 w10009) 21 (Nat.le_of_ble_eq_true rfl) rfl rfl rfl qf_X8_253 dX8_settle_48 ew10012 (fun H locs hE => ?_)
        refine lv_aload_n hx hb dX8_settle_51 rfl (lv_at hl 0 rfl) ?_
        refine zr_getA S hK hE zcl_X8 (zm_0 w10012) 17 (Nat.le_of_ble_eq_true rfl) (q := 10) rfl qf_X8_38 dX8_settle_52 ?_
        refine lv_aload_n hx hb dX8_settle_55 rfl (lv_at hl 0 rfl) ?_
        obtain ⟨x10013, ex10013, h⟩ := zbdE h
        refine zr_getI S hK hE zcl_X8 (zm_0 w10012) 18 (Nat.le_of_ble_eq_true rfl) rfl qf_X8_259 dX8_settle_56 ex10013 ?_
        refine lv_aload_n hx hb dX8_settle_59 rfl (lv_at hl 0 rfl) ?_
        refine zr_getA S hK hE zcl_X8 (zm_0 w10012) 20 (Nat.le_of_ble_eq_true rfl) (q := 11) rfl qf_X8_41 dX8_settle_60 ?_
        refine lv_aload_n hx hb dX8_settle_63 rfl (lv_at hl 0 rfl) ?_
        obtain ⟨x10014, ex10014, h⟩ := zbdE h
        refine zr_getI S hK hE zcl_X8 (zm_0 w10012) 21 (Nat.le_of_ble_eq_true rfl) rfl qf_X8_253 dX8_settle_64 ex10014 ?_
        obtain ⟨x10015, ex10015, h⟩ := zbdE h
        refine zr_iald S hK hE (zm_11 w10012) dX8_settle_67 ex10015 ?_
        obtain ⟨w10016, ew10016, h⟩ := zbdE h
        refine zr_iast S hK hE (zm_10 w10012) dX8_settle_68 ew10016 (fun H locs hE => ?_)
        refine lv_aload_n hx hb dX8_settle_69 rfl (lv_at hl 0 rfl) ?_
        refine lv_dup hx hb dX8_settle_70 rfl ?_
        obtain ⟨x10017, ex10017, h⟩ := zbdE h
        refine zr_getI S hK hE zcl_X8 (zm_0 w10016) 18 (Nat.le_of_ble_eq_true rfl) rfl qf_X8_259 dX8_settle_71 ex10017 ?_
        refine lv_iconst (v := 1) hx hb dX8_settle_74 (by decide) ?_
        refine lv_iadd hx hb dX8_settle_75 ?_
        obtain ⟨w10018, ew10018, h⟩ := zbdE h
        refine zr_putI S hK hE zcl_X8 (zm_0 w10016) 18 (Nat.le_of_ble_eq_true rfl) rfl rfl rfl qf_X8_259 dX8_settle_76 ew10018 (fun H locs hE => ?_)
        refine lv_goto (tgt := 0) hx hb dX8_settle_79 (by decide) ?_
        exact L0 zfuel a1 w10018 ls _ _ h (lv_sub hl [0, 1] rfl) hE
set_option maxHeartbeats 4000000 in
set_option maxRecDepth 100000 in
theorem kX8_sheet (l : Launch) (D : va_G) (tc : Nat → ClassId) (lo : Nat) (ad : Nat → Nat) (fr : va_W) (zq : zz_Q) (a1 : Int32) (a2 : Int32) (a3 : Int32) (w : zz_W) (r : Int32) (w_ : zz_W) (h : fX8_sheet a1 a2 a3 w = some (r, w_)) : zMi l yX8_sheet cX8_sheet 5 (some .int) { frames := 2, cells := 0, slots := 0, locals := 42 } D tc lo ad zshM znnM fr zq [.ref (ad 0), .int a1, .int a2, .int a3] w r w_ := by
  refine zr_entry (by decide) (Nat.le_of_ble_eq_true rfl) fun p e s m args below meth c ls S hX hr hlk hE hl => ?_
  have S : CallFix p m c cX8_sheet 5 s args (Cond.code yX8_sheet cX8_sheet 5 (some .int) :: zw_tb) RX8 := S
  have hx := S.1
  have hb := S.2.1
  have hK := hX.2.1
  have hl : lv_has ls 5 [(0, .ref (ad 0)), (1, .int a1), (2, .int a2), (3, .int a3)] := hl
  unfold fX8_sheet at h
  have L66 : ∀ (n : Nat) (l1 : Int32) (l4 : Int32) (w : zz_W) (ls : Array Slot) (H : Heap) (locs : List Loc), fX8_sheet_66 a1 a2 a3 n l1 l4 w = some (r, w_) → lv_has ls 5 [(0, .ref (ad 0)), (1, .int l1), (4, .int l4)] → zE D tc lo ad zshM znnM fr w s.heap H locs → W p l e { frames := 2, cells := 0, slots := 0, locals := 42 } s m args below meth c H locs 0 0 (zZi D tc lo ad zshM znnM fr below args s r w_) (F0 m 66 ls []) := by
    intro n66
    induction n66 with
    | zero => intro l1 l4 w ls H locs h hl hE; rw [fX8_sheet_66] at h; cases h
    | succ n66 ih66 =>
      intro l1 l4 w ls H locs h hl hE
      rw [fX8_sheet_66] at h
      refine lv_iload hx hb dX8_sheet_66 (lv_at hl 2 rfl) ?_
      refine lv_bipush (v := 24) hx hb dX8_sheet_68 (by decide) ?_
      refine lv_icmp_ge (tgt := 92) hx hb dX8_sheet_70 (by decide) (fun c35 => ?_) (fun c35 => ?_)
      · have h := zif c35 h
        refine lv_aload_n hx hb dX8_sheet_92 rfl (lv_at hl 0 rfl) ?_
        refine zr_getA S hK hE zcl_X8 (zm_0 w) 26 (Nat.le_of_ble_eq_true rfl) (q := 16) rfl qf_X8_57 dX8_sheet_93 ?_
        refine lv_iload_n hx hb dX8_sheet_96 rfl (lv_at hl 1 rfl) ?_
        obtain ⟨x36, ex36, h⟩ := zbdE h
        refine zr_iald S hK hE (zm_16 w) dX8_sheet_97 ex36 ?_
        exact zr_iret S hE hr hlk h dX8_sheet_98
      · have h := zif' c35 h
        refine lv_aload_n hx hb dX8_sheet_73 rfl (lv_at hl 0 rfl) ?_
        refine zr_getA S hK hE zcl_X8 (zm_0 w) 27 (Nat.le_of_ble_eq_true rfl) (q := 17) rfl qf_X8_60 dX8_sheet_74 ?_
        refine lv_bipush (v := 24) hx hb dX8_sheet_77 (by decide) ?_
        refine lv_iload_n hx hb dX8_sheet_79 rfl (lv_at hl 1 rfl) ?_
        refine lv_imul hx hb dX8_sheet_80 ?_
        refine lv_iload hx hb dX8_sheet_81 (lv_at hl 2 rfl) ?_
        refine lv_iadd hx hb dX8_sheet_83 ?_
        refine lv_iconst (v := 0) hx hb dX8_sheet_84 (by decide) ?_
        obtain ⟨w37, ew37, h⟩ := zbdE h
        refine zr_iast S hK hE (zm_17 w) dX8_sheet_85 ew37 (fun H locs hE => ?_)
        obtain ⟨x38, ex38, h⟩ := zbdE h
        refine lv_iinc (v := x38) (lv' := [(4, .int x38), (0, .ref (ad 0)), (1, .int l1)]) hx hb dX8_sheet_86 hl (k := 2) rfl (zinc (k := 1) (by decide) ex38) (by decide) rfl (fun ls hl => ?_)
        refine lv_goto (tgt := 66) hx hb dX8_sheet_89 (by decide) ?_
        exact ih66 l1 x38 w37 ls _ _ h (lv_sub hl [1, 2, 0] rfl) hE
  have J62 : ∀ (l1 : Int32) (s1 : Int32) (s2 : Int32) (w : zz_W) (ls : Array Slot) (H : Heap) (locs : List Loc), fX8_sheet_62 a1 a2 a3 l1 s1 s2 w = some (r, w_) → lv_has ls 5 [(0, .ref (ad 0)), (1, .int l1)] → zE D tc lo ad zshM znnM fr w s.heap H locs → W p l e { frames := 2, cells := 0, slots := 0, locals := 42 } s m args below meth c H locs 0 0 (zZi D tc lo ad zshM znnM fr below args s r w_) (F0 m 62 ls [.int s2, .int s1, .ref (ad 16)]) := by
    intro l1 s1 s2 w ls H locs h hl hE
    unfold fX8_sheet_62 at h
    obtain ⟨w39, ew39, h⟩ := zbdE h
    refine zr_iast S hK hE (zm_16 w) dX8_sheet_62 ew39 (fun H locs hE => ?_)
    refine lv_iconst (v := 0) hx hb dX8_sheet_63 (by decide) ?_
    refine lv_istore (lv' := [(4, .int 0), (0, .ref (ad 0)), (1, .int l1)]) hx hb dX8_sheet_64 hl (by decide) rfl (fun ls hl => ?_)
    exact L66 zfuel l1 0 w39 ls _ _ h (lv_sub hl [1, 2, 0] rfl) hE
  have J41 : ∀ (l1 : Int32) (l2 : Int32) (l3 : Int32) (w : zz_W) (ls : Array Slot) (H : Heap) (locs : List Loc), fX8_sheet_41 a1 a2 a3 l1 l2 l3 w = some (r, w_) → lv_has ls 5 [(0, .ref (ad 0)), (1, .int l1), (2, .int l2), (3, .int l3)] → zE D tc lo ad zshM znnM fr w s.heap H locs → W p l e { frames := 2, cells := 0, slots := 0, locals := 42 } s m args below meth c H locs 0 0 (zZi D tc lo ad zshM znnM fr below args s r w_) (F0 m 41 ls []) := by
    intro l1 l2 l3 w ls H locs h hl hE
    unfold fX8_sheet_41 at h
    refine lv_aload_n hx hb dX8_sheet_41 rfl (lv_at hl 0 rfl) ?_
    refine zr_getA S hK hE zcl_X8 (zm_0 w) 25 (Nat.le_of_ble_eq_true rfl) (q := 15) rfl qf_X8_54 dX8_sheet_42 ?_
    refine lv_iload_n hx hb dX8_sheet_45 rfl (lv_at hl 1 rfl) ?_
    refine lv_iload_n hx hb dX8_sheet_46 rfl (lv_at hl 2 rfl) ?_
    obtain ⟨w40, ew40, h⟩ := zbdE h
    refine zr_iast S hK hE (zm_15 w) dX8_sheet_47 ew40 (fun H locs hE => ?_)
    refine lv_aload_n hx hb dX8_sheet_48 rfl (lv_at hl 0 rfl) ?_
    refine zr_getA S hK hE zcl_X8 (zm_0 w40) 26 (Nat.le_of_ble_eq_true rfl) (q := 16) rfl qf_X8_57 dX8_sheet_49 ?_
    refine lv_iload_n hx hb dX8_sheet_52 rfl (lv_at hl 1 rfl) ?_
    refine lv_iload_n hx hb dX8_sheet_53 rfl (lv_at hl 2 rfl) ?_
    refine lv_if_ge (tgt := 61) hx hb dX8_sheet_54 (by decide) (fun c41 => ?_) (fun c41 => ?_)
    · have h := zif c41 h
      refine lv_iload_n hx hb dX8_sheet_61 rfl (lv_at hl 3 rfl) ?_
      exact J62 l1 l1 l3 w40 ls _ _ h (lv_sub hl [0, 1] rfl) hE
    · have h := zif' c41 h
      refine lv_iconst (v := 0) hx hb dX8_sheet_57 (by decide) ?_
      refine lv_goto (tgt := 62) hx hb dX8_sheet_58 (by decide) ?_
      exact J62 l1 l1 0 w40 ls _ _ h (lv_sub hl [0, 1] rfl) hE
  have J29 : ∀ (l1 : Int32) (l2 : Int32) (l3 : Int32) (w : zz_W) (ls : Array Slot) (H : Heap) (locs : List Loc), fX8_sheet_29 a1 a2 a3 l1 l2 l3 w = some (r, w_) → lv_has ls 5 [(0, .ref (ad 0)), (1, .int l1), (2, .int l2), (3, .int l3)] → zE D tc lo ad zshM znnM fr w s.heap H locs → W p l e { frames := 2, cells := 0, slots := 0, locals := 42 } s m args below meth c H locs 0 0 (zZi D tc lo ad zshM znnM fr below args s r w_) (F0 m 29 ls []) := by
    intro l1 l2 l3 w ls H locs h hl hE
    unfold fX8_sheet_29 at h
    refine lv_iload_n hx hb dX8_sheet_29 rfl (lv_at hl 2 rfl) ?_
    refine lv_if_lt (tgt := 41) hx hb dX8_sheet_30 (by decide) (fun c42 => ?_) (fun c42 => ?_)
    · have h := zif c42 h
      exact J41 l1 l2 l3 w ls _ _ h (lv_sub hl [0, 1, 2, 3] rfl) hE
    · have h := zif' c42 h
      refine lv_iload_n hx hb dX8_sheet_33 rfl (lv_at hl 3 rfl) ?_
      refine lv_if_ge (tgt := 41) hx hb dX8_sheet_34 (by decide) (fun c43 => ?_) (fun c43 => ?_)
      · have h := zif c43 h
        exact J41 l1 l2 l3 w ls _ _ h (lv_sub hl [0, 1, 2, 3] rfl) hE
      · have h := zif' c43 h
        refine zr_ldcw S qc_X8_289 dX8_sheet_37 ?_
        exact zr_iret S hE hr hlk h dX8_sheet_40
  refine lv_iload_n hx hb dX8_sheet_0 rfl (lv_at hl 1 rfl) ?_
  obtain ⟨x10001, w10002, ew10002, h⟩ := zbd2E h
  refine zr_i (zr_runS (As := [.int a1]) S hX hE (kX8_isSheet l D tc lo ad fr zq a1 w x10001 w10002 ew10002) zyX8_isSheet qm_X8_197 ⟨rfl, rfl⟩ ⟨Nat.le_of_ble_eq_true rfl, Nat.le_of_ble_eq_true rfl⟩ rfl hl.1 rfl (Nat.le_of_ble_eq_true rfl) dX8_sheet_1 ⟨Nat.zero_le _, Nat.zero_le _⟩) hE (fun H locs hE => ?_)
  refine lv_if_eq (tgt := 26) hx hb dX8_sheet_4 (by decide) (fun c10003 => ?_) (fun c10003 => ?_)
  · have h := zif c10003 h
    refine zr_ldc S qc_X8_97 dX8_sheet_26 ?_
    exact zr_iret S hE hr hlk h dX8_sheet_28
  · have h := zif' c10003 h
    refine lv_iload_n hx hb dX8_sheet_7 rfl (lv_at hl 2 rfl) ?_
    refine lv_iconst (v := (-1)) hx hb dX8_sheet_8 (by decide) ?_
    refine lv_iconst (v := 1) hx hb dX8_sheet_9 (by decide) ?_
    obtain ⟨x10004, w10005, ew10005, h⟩ := zbd2E h
    refine zr_i (zr_runS (As := [.int a2, .int (-1), .int 1]) S hX hE (kX8_in l D tc lo ad fr zq a2 (-1) 1 w10002 x10004 w10005 ew10005) zyX8_in qm_X8_81 ⟨rfl, rfl⟩ ⟨Nat.le_of_ble_eq_true rfl, Nat.le_of_ble_eq_true rfl⟩ rfl hl.1 rfl (Nat.le_of_ble_eq_true rfl) dX8_sheet_10 ⟨Nat.zero_le _, Nat.zero_le _⟩) hE (fun H locs hE => ?_)
    refine lv_if_eq (tgt := 26) hx hb dX8_sheet_13 (by decide) (fun c10006 => ?_) (fun c10006 => ?_)
    · have h := zif c10006 h
      refine zr_ldc S qc_X8_97 dX8_sheet_26 ?_
      exact zr_iret S hE hr hlk h dX8_sheet_28
    · have h := zif' c10006 h
      refine lv_iload_n hx hb dX8_sheet_16 rfl (lv_at hl 2 rfl) ?_
      refine lv_if_lt (tgt := 29) hx hb dX8_sheet_17 (by decide) (fun c10007 => ?_) (fun c10007 => ?_)
      · have h := zif c10007 h
        exact J29 a1 a2 a3 w10005 ls _ _ h (lv_sub hl [0, 1, 2, 3] rfl) hE
      · have h := zif' c10007 h
        refine lv_iload_n hx hb dX8_sheet_20 rfl (lv_at hl 3 rfl) ?_
        refine lv_bipush (v := 24) hx hb dX8_sheet_21 (by decide) ?_
        refine lv_icmp_le (tgt := 29) hx hb dX8_sheet_23 (by decide) (fun c10008 => ?_) (fun c10008 => ?_)
        · have h := zif c10008 h
          exact J29 a1 a2 a3 w10005 ls _ _ h (lv_sub hl [0, 1, 2, 3] rfl) hE
        · have h := zif' c10008 h
          refine zr_ldc S qc_X8_97 dX8_sheet_26 ?_
          exact zr_iret S hE hr hlk h dX8_sheet_28
set_option maxHeartbeats 4000000 in
set_option maxRecDepth 100000 in
theorem kX8_signHere (l : Launch) (D : va_G) (tc : Nat → ClassId) (lo : Nat) (ad : Nat → Nat) (fr : va_W) (zq : zz_Q) (w : zz_W) (r : Int32) (w_ : zz_W) (h : fX8_signHere w = some (r, w_)) : zMi l yX8_signHere cX8_signHere 1 (some .int) { frames := 0, cells := 0, slots := 0, locals := 0 } D tc lo ad zshM znnM fr zq [.ref (ad 0)] w r w_ := by
  refine zr_entry (by decide) (Nat.le_of_ble_eq_true rfl) fun p e s m args below meth c ls S hX hr hlk hE hl => ?_
  have S : CallFix p m c cX8_signHere 1 s args (Cond.code yX8_signHere cX8_signHere 1 (some .int) :: zw_tb) RX8 := S
  have hx := S.1
  have hb := S.2.1
  have hK := hX.2.1
  have hl : lv_has ls 1 [(0, .ref (ad 0))] := hl
  unfold fX8_signHere at h
  refine lv_aload_n hx hb dX8_signHere_0 rfl (lv_at hl 0 rfl) ?_
  obtain ⟨x10001, ex10001, h⟩ := zbdE h
  refine zr_getI S hK hE zcl_X8 (zm_0 w) 11 (Nat.le_of_ble_eq_true rfl) rfl qf_X8_235 dX8_signHere_1 ex10001 ?_
  refine lv_iconst (v := 3) hx hb dX8_signHere_4 (by decide) ?_
  refine lv_icmp_eq (tgt := 10) hx hb dX8_signHere_5 (by decide) (fun c10002 => ?_) (fun c10002 => ?_)
  · have h := zif c10002 h
    refine lv_aload_n hx hb dX8_signHere_10 rfl (lv_at hl 0 rfl) ?_
    obtain ⟨x10003, ex10003, h⟩ := zbdE h
    refine zr_getI S hK hE zcl_X8 (zm_0 w) 12 (Nat.le_of_ble_eq_true rfl) rfl qf_X8_241 dX8_signHere_11 ex10003 ?_
    by_cases c10004 : x10003 = 38
    · refine lv_lookup (off := 84) (tgt := 98) hx hb dX8_signHere_14 (by decide) (by rw [c10004]; decide) (by decide) ?_
      have h := zif c10004 h
      refine lv_bipush (v := (-2)) hx hb dX8_signHere_98 (by decide) ?_
      exact zr_iret S hE hr hlk h dX8_signHere_100
    have h := zif' c10004 h
    by_cases c10005 : x10003 = 42
    · refine lv_lookup (off := 102) (tgt := 116) hx hb dX8_signHere_14 (by decide) (by rw [c10005]; decide) (by decide) ?_
      have h := zif c10005 h
      refine lv_bipush (v := (-8)) hx hb dX8_signHere_116 (by decide) ?_
      exact zr_iret S hE hr hlk h dX8_signHere_118
    have h := zif' c10005 h
    by_cases c10006 : x10003 = 43
    · refine lv_lookup (off := 96) (tgt := 110) hx hb dX8_signHere_14 (by decide) (by rw [c10006]; decide) (by decide) ?_
      have h := zif c10006 h
      refine lv_bipush (v := (-6)) hx hb dX8_signHere_110 (by decide) ?_
      exact zr_iret S hE hr hlk h dX8_signHere_112
    have h := zif' c10006 h
    by_cases c10007 : x10003 = 45
    · refine lv_lookup (off := 99) (tgt := 113) hx hb dX8_signHere_14 (by decide) (by rw [c10007]; decide) (by decide) ?_
      have h := zif c10007 h
      refine lv_bipush (v := (-7)) hx hb dX8_signHere_113 (by decide) ?_
      exact zr_iret S hE hr hlk h dX8_signHere_115
    have h := zif' c10007 h
    by_cases c10008 : x10003 = 47
    · refine lv_lookup (off := 105) (tgt := 119) hx hb dX8_signHere_14 (by decide) (by rw [c10008]; decide) (by decide) ?_
      have h := zif c10008 h
      refine lv_bipush (v := (-9)) hx hb dX8_signHere_119 (by decide) ?_
      exact zr_iret S hE hr hlk h dX8_signHere_121
    have h := zif' c10008 h
    by_cases c10009 : x10003 = 60
    · refine lv_lookup (off := 87) (tgt := 101) hx hb dX8_signHere_14 (by decide) (by rw [c10009]; decide) (by decide) ?_
      have h := zif c10009 h
      refine lv_bipush (v := (-3)) hx hb dX8_signHere_101 (by decide) ?_
      exact zr_iret S hE hr hlk h dX8_signHere_103
    have h := zif' c10009 h
    by_cases c10010 : x10003 = 61
    · refine lv_lookup (off := 90) (tgt := 104) hx hb dX8_signHere_14 (by decide) (by rw [c10010]; decide) (by decide) ?_
      have h := zif c10010 h
      refine lv_bipush (v := (-4)) hx hb dX8_signHere_104 (by decide) ?_
      exact zr_iret S hE hr hlk h dX8_signHere_106
    have h := zif' c10010 h
    by_cases c10011 : x10003 = 62
    · refine lv_lookup (off := 93) (tgt := 107) hx hb dX8_signHere_14 (by decide) (by rw [c10011]; decide) (by decide) ?_
      have h := zif c10011 h
      refine lv_bipush (v := (-5)) hx hb dX8_signHere_107 (by decide) ?_
      exact zr_iret S hE hr hlk h dX8_signHere_109
    have h := zif' c10011 h
    by_cases c10012 : x10003 = 124
    · refine lv_lookup (off := 82) (tgt := 96) hx hb dX8_signHere_14 (by decide) (by rw [c10012]; decide) (by decide) ?_
      have h := zif c10012 h
      refine lv_iconst (v := (-1)) hx hb dX8_signHere_96 (by decide) ?_
      exact zr_iret S hE hr hlk h dX8_signHere_97
    have h := zif' c10012 h
    refine lv_lookup (off := 108) (tgt := 122) hx hb dX8_signHere_14 (by decide) (by show Op.lookupswitch.offset [(38, 84), (42, 102), (43, 96), (45, 99), (47, 105), (60, 87), (61, 90), (62, 93), (124, 82)] 108 _ = 108; rw [lv_osw c10004 (a := 38) (by decide), lv_osw c10005 (a := 42) (by decide), lv_osw c10006 (a := 43) (by decide), lv_osw c10007 (a := 45) (by decide), lv_osw c10008 (a := 47) (by decide), lv_osw c10009 (a := 60) (by decide), lv_osw c10010 (a := 61) (by decide), lv_osw c10011 (a := 62) (by decide), lv_osw c10012 (a := 124) (by decide)]; rfl) (by decide) ?_
    refine lv_iconst (v := 0) hx hb dX8_signHere_122 (by decide) ?_
    exact zr_iret S hE hr hlk h dX8_signHere_123
  · have h := zif' c10002 h
    refine lv_iconst (v := 0) hx hb dX8_signHere_8 (by decide) ?_
    exact zr_iret S hE hr hlk h dX8_signHere_9
set_option maxHeartbeats 4000000 in
set_option maxRecDepth 100000 in
theorem kX8_slipped (l : Launch) (D : va_G) (tc : Nat → ClassId) (lo : Nat) (ad : Nat → Nat) (fr : va_W) (zq : zz_Q) (a1 : Int32) (a2 : Int32) (w : zz_W) (r : Int32) (w_ : zz_W) (h : fX8_slipped a1 a2 w = some (r, w_)) : zMi l yX8_slipped cX8_slipped 7 (some .int) { frames := 6, cells := 0, slots := 0, locals := 141 } D tc lo ad zshM znnM fr zq [.ref (ad 0), .int a1, .int a2] w r w_ := by
  refine zr_entry (by decide) (Nat.le_of_ble_eq_true rfl) fun p e s m args below meth c ls S hX hr hlk hE hl => ?_
  have S : CallFix p m c cX8_slipped 7 s args (Cond.code yX8_slipped cX8_slipped 7 (some .int) :: zw_tb) RX8 := S
  have hx := S.1
  have hb := S.2.1
  have hK := hX.2.1
  have hl : lv_has ls 7 [(0, .ref (ad 0)), (1, .int a1), (2, .int a2)] := hl
  unfold fX8_slipped at h
  have L47 : ∀ (n : Nat) (l1 : Int32) (l2 : Int32) (l3 : Int32) (l4 : Int32) (l5 : Int32) (w : zz_W) (ls : Array Slot) (H : Heap) (locs : List Loc), fX8_slipped_47 a1 a2 n l1 l2 l3 l4 l5 w = some (r, w_) → lv_has ls 7 [(0, .ref (ad 0)), (1, .int l1), (2, .int l2), (3, .int l3), (4, .int l4), (5, .int l5)] → zE D tc lo ad zshM znnM fr w s.heap H locs → W p l e { frames := 6, cells := 0, slots := 0, locals := 141 } s m args below meth c H locs 0 0 (zZi D tc lo ad zshM znnM fr below args s r w_) (F0 m 47 ls []) := by
    intro n47
    induction n47 with
    | zero => intro l1 l2 l3 l4 l5 w ls H locs h hl hE; rw [fX8_slipped_47] at h; cases h
    | succ n47 ih47 =>
      intro l1 l2 l3 l4 l5 w ls H locs h hl hE
      rw [fX8_slipped_47] at h
      have J111 : ∀ (l1 : Int32) (l2 : Int32) (l4 : Int32) (l5 : Int32) (l6 : Int32) (s0 : Int32) (w : zz_W) (ls : Array Slot) (H : Heap) (locs : List Loc), fX8_slipped_111 a1 a2 (fX8_slipped_47 a1 a2 n47) l1 l2 l4 l5 l6 s0 w = some (r, w_) → lv_has ls 7 [(0, .ref (ad 0)), (1, .int l1), (2, .int l2), (4, .int l4), (5, .int l5), (6, .int l6)] → zE D tc lo ad zshM znnM fr w s.heap H locs → W p l e { frames := 6, cells := 0, slots := 0, locals := 141 } s m args below meth c H locs 0 0 (zZi D tc lo ad zshM znnM fr below args s r w_) (F0 m 111 ls [.int s0]) := by
        intro l1 l2 l4 l5 l6 s0 w ls H locs h hl hE
        unfold fX8_slipped_111 at h
        refine lv_istore_n (lv' := [(3, .int s0), (0, .ref (ad 0)), (1, .int l1), (2, .int l2), (4, .int l4), (5, .int l5), (6, .int l6)]) hx hb dX8_slipped_111 rfl hl (by decide) rfl (fun ls hl => ?_)
        refine lv_iload hx hb dX8_slipped_112 (lv_at hl 6 rfl) ?_
        refine lv_iload hx hb dX8_slipped_114 (lv_at hl 4 rfl) ?_
        refine lv_icmp_le (tgt := 124) hx hb dX8_slipped_116 (by decide) (fun c53 => ?_) (fun c53 => ?_)
        · have h := zif c53 h
          refine lv_iload hx hb dX8_slipped_124 (lv_at hl 4 rfl) ?_
          refine lv_istore (lv' := [(4, .int l4), (3, .int s0), (0, .ref (ad 0)), (1, .int l1), (2, .int l2), (5, .int l5), (6, .int l6)]) hx hb dX8_slipped_126 hl (by decide) rfl (fun ls hl => ?_)
          obtain ⟨x54, ex54, h⟩ := zbdE h
          refine lv_iinc (v := x54) (lv' := [(5, .int x54), (4, .int l4), (3, .int s0), (0, .ref (ad 0)), (1, .int l1), (2, .int l2), (6, .int l6)]) hx hb dX8_slipped_128 hl (k := 5) rfl (zinc (k := 1) (by decide) ex54) (by decide) rfl (fun ls hl => ?_)
          refine lv_goto (tgt := 47) hx hb dX8_slipped_131 (by decide) ?_
          exact ih47 l1 l2 s0 l4 x54 w ls _ _ h (lv_sub hl [3, 4, 5, 2, 1, 0] rfl) hE
        · have h := zif' c53 h
          refine lv_iload hx hb dX8_slipped_119 (lv_at hl 6 rfl) ?_
          refine lv_goto (tgt := 126) hx hb dX8_slipped_121 (by decide) ?_
          refine lv_istore (lv' := [(4, .int l6), (3, .int s0), (0, .ref (ad 0)), (1, .int l1), (2, .int l2), (5, .int l5), (6, .int l6)]) hx hb dX8_slipped_126 hl (by decide) rfl (fun ls hl => ?_)
          obtain ⟨x55, ex55, h⟩ := zbdE h
          refine lv_iinc (v := x55) (lv' := [(5, .int x55), (4, .int l6), (3, .int s0), (0, .ref (ad 0)), (1, .int l1), (2, .int l2), (6, .int l6)]) hx hb dX8_slipped_128 hl (k := 5) rfl (zinc (k := 1) (by decide) ex55) (by decide) rfl (fun ls hl => ?_)
          refine lv_goto (tgt := 47) hx hb dX8_slipped_131 (by decide) ?_
          exact ih47 l1 l2 s0 l6 x55 w ls _ _ h (lv_sub hl [3, 4, 5, 2, 1, 0] rfl) hE
      refine lv_iload hx hb dX8_slipped_47 (lv_at hl 5 rfl) ?_
      refine lv_bipush (v := 50) hx hb dX8_slipped_49 (by decide) ?_
      refine lv_icmp_ge (tgt := 134) hx hb dX8_slipped_51 (by decide) (fun c56 => ?_) (fun c56 => ?_)
      · have h := zif c56 h
        refine lv_iload_n hx hb dX8_slipped_134 rfl (lv_at hl 2 rfl) ?_
        refine lv_if_ne (tgt := 142) hx hb dX8_slipped_135 (by decide) (fun c57 => ?_) (fun c57 => ?_)
        · have h := zif' c57 h
          refine lv_iload hx hb dX8_slipped_142 (lv_at hl 4 rfl) ?_
          exact zr_iret S hE hr hlk h dX8_slipped_144
        · have h := zif c57 h
          refine lv_iload_n hx hb dX8_slipped_138 rfl (lv_at hl 3 rfl) ?_
          refine lv_goto (tgt := 144) hx hb dX8_slipped_139 (by decide) ?_
          exact zr_iret S hE hr hlk h dX8_slipped_144
      · have h := zif' c56 h
        refine lv_aload_n hx hb dX8_slipped_54 rfl (lv_at hl 0 rfl) ?_
        refine zr_getA S hK hE zcl_X8 (zm_0 w) 0 (Nat.le_of_ble_eq_true rfl) (q := 1) rfl qf_X8_9 dX8_slipped_55 ?_
        refine lv_iconst (v := 3) hx hb dX8_slipped_58 (by decide) ?_
        refine lv_iload hx hb dX8_slipped_59 (lv_at hl 5 rfl) ?_
        obtain ⟨w58, ew58, h⟩ := zbdE h
        refine zr_iast S hK hE (zm_1 w) dX8_slipped_61 ew58 (fun H locs hE => ?_)
        refine lv_aload_n hx hb dX8_slipped_62 rfl (lv_at hl 0 rfl) ?_
        refine lv_iload_n hx hb dX8_slipped_63 rfl (lv_at hl 1 rfl) ?_
        obtain ⟨w59, ew59, h⟩ := zbdE h
        refine zr_v (zr_runV (As := [.int l1]) S hX hE (kX8_goesOn l D tc lo ad fr zq l1 w58 w59 ew59) zyX8_goesOn qm_X8_168 zcl_X8 rfl (zm_0 w58) ⟨rfl, rfl⟩ ⟨Nat.le_of_ble_eq_true rfl, Nat.le_of_ble_eq_true rfl⟩ rfl hl.1 rfl (Nat.le_of_ble_eq_true rfl) dX8_slipped_64 ⟨Nat.zero_le _, Nat.zero_le _⟩) hE (fun H locs hE => ?_)
        refine zr_ldc2 S qd_X8_174 dX8_slipped_67 ?_
        refine lv_aload_n hx hb dX8_slipped_70 rfl (lv_at hl 0 rfl) ?_
        refine lv_aload_n hx hb dX8_slipped_71 rfl (lv_at hl 0 rfl) ?_
        refine zr_getA S hK hE zcl_X8 (zm_0 w59) 0 (Nat.le_of_ble_eq_true rfl) (q := 1) rfl qf_X8_9 dX8_slipped_72 ?_
        refine lv_bipush (v := 12) hx hb dX8_slipped_75 (by decide) ?_
        obtain ⟨x60, ex60, h⟩ := zbdE h
        refine zr_iald S hK hE (zm_1 w59) dX8_slipped_77 ex60 ?_
        refine lv_iconst (v := 4) hx hb dX8_slipped_78 (by decide) ?_
        obtain ⟨x61, w62, ew62, h⟩ := zbd2E h
        refine zr_i (zr_runV (As := [.int x60, .int 4]) S hX hE (kX8_of l D tc lo ad fr zq x60 4 w59 x61 w62 ew62) zyX8_of qm_X8_103 zcl_X8 rfl (zm_0 w59) ⟨rfl, rfl⟩ ⟨Nat.le_of_ble_eq_true rfl, Nat.le_of_ble_eq_true rfl⟩ rfl hl.1 rfl (Nat.le_of_ble_eq_true rfl) dX8_slipped_79 ⟨Nat.zero_le _, Nat.zero_le _⟩) hE (fun H locs hE => ?_)
        refine lv_i2l hx hb dX8_slipped_82 rfl ?_
        refine lv_lmul hx hb dX8_slipped_83 ?_
        refine lv_aload_n hx hb dX8_slipped_84 rfl (lv_at hl 0 rfl) ?_
        refine lv_iconst (v := 4) hx hb dX8_slipped_85 (by decide) ?_
        obtain ⟨x63, w64, ew64, h⟩ := zbd2E h
        refine zr_i (zr_runV (As := [.int 4]) S hX hE (kX8_sumOf l D tc lo ad fr zq 4 w62 x63 w64 ew64) zyX8_sumOf qm_X8_151 zcl_X8 rfl (zm_0 w62) ⟨rfl, rfl⟩ ⟨Nat.le_of_ble_eq_true rfl, Nat.le_of_ble_eq_true rfl⟩ rfl hl.1 rfl (Nat.le_of_ble_eq_true rfl) dX8_slipped_86 ⟨Nat.zero_le _, Nat.zero_le _⟩) hE (fun H locs hE => ?_)
        refine lv_i2l hx hb dX8_slipped_89 rfl ?_
        obtain ⟨x65, ex65, h⟩ := zbdE h
        refine zr_ldiv hx hb dX8_slipped_90 ex65 ?_
        refine lv_l2i hx hb dX8_slipped_91 rfl ?_
        obtain ⟨x66, ex66, h⟩ := zbdE h
        refine zr_topi ex66 ?_
        refine lv_istore (lv' := [(6, .int x66), (0, .ref (ad 0)), (1, .int l1), (2, .int l2), (3, .int l3), (4, .int l4), (5, .int l5)]) hx hb dX8_slipped_92 hl (by decide) rfl (fun ls hl => ?_)
        refine lv_aload_n hx hb dX8_slipped_94 rfl (lv_at hl 1 rfl) ?_
        obtain ⟨w67, ew67, h⟩ := zbdE h
        refine zr_v (zr_runV (As := []) S hX hE (kX8_putsBack l D tc lo ad fr zq w64 w67 ew67) zyX8_putsBack qm_X8_219 zcl_X8 rfl (zm_0 w64) ⟨rfl, rfl⟩ ⟨Nat.le_of_ble_eq_true rfl, Nat.le_of_ble_eq_true rfl⟩ rfl hl.1 rfl (Nat.le_of_ble_eq_true rfl) dX8_slipped_95 ⟨Nat.zero_le _, Nat.zero_le _⟩) hE (fun H locs hE => ?_)
        refine lv_iload hx hb dX8_slipped_98 (lv_at hl 0 rfl) ?_
        refine lv_iload hx hb dX8_slipped_100 (lv_at hl 5 rfl) ?_
        refine lv_icmp_le (tgt := 110) hx hb dX8_slipped_102 (by decide) (fun c68 => ?_) (fun c68 => ?_)
        · have h := zif c68 h
          refine lv_iload_n hx hb dX8_slipped_110 rfl (lv_at hl 4 rfl) ?_
          exact J111 l1 l2 l4 l5 x66 l3 w67 ls _ _ h (lv_sub hl [1, 2, 3, 5, 6, 0] rfl) hE
        · have h := zif' c68 h
          refine lv_iload hx hb dX8_slipped_105 (lv_at hl 6 rfl) ?_
          refine lv_goto (tgt := 111) hx hb dX8_slipped_107 (by decide) ?_
          exact J111 l1 l2 l4 l5 x66 l5 w67 ls _ _ h (lv_sub hl [1, 2, 3, 5, 6, 0] rfl) hE
  refine lv_iload_n hx hb dX8_slipped_0 rfl (lv_at hl 1 rfl) ?_
  refine lv_iconst (v := 1) hx hb dX8_slipped_1 (by decide) ?_
  refine lv_bipush (v := 30) hx hb dX8_slipped_2 (by decide) ?_
  obtain ⟨x10001, w10002, ew10002, h⟩ := zbd2E h
  refine zr_i (zr_runS (As := [.int a1, .int 1, .int 30]) S hX hE (kX8_in l D tc lo ad fr zq a1 1 30 w x10001 w10002 ew10002) zyX8_in qm_X8_81 ⟨rfl, rfl⟩ ⟨Nat.le_of_ble_eq_true rfl, Nat.le_of_ble_eq_true rfl⟩ rfl hl.1 rfl (Nat.le_of_ble_eq_true rfl) dX8_slipped_4 ⟨Nat.zero_le _, Nat.zero_le _⟩) hE (fun H locs hE => ?_)
  refine lv_if_eq (tgt := 19) hx hb dX8_slipped_7 (by decide) (fun c10003 => ?_) (fun c10003 => ?_)
  · have h := zif c10003 h
    refine zr_ldc S qc_X8_97 dX8_slipped_19 ?_
    exact zr_iret S hE hr hlk h dX8_slipped_21
  · have h := zif' c10003 h
    refine lv_iload_n hx hb dX8_slipped_10 rfl (lv_at hl 2 rfl) ?_
    refine lv_iconst (v := 0) hx hb dX8_slipped_11 (by decide) ?_
    refine lv_iconst (v := 1) hx hb dX8_slipped_12 (by decide) ?_
    obtain ⟨x10004, w10005, ew10005, h⟩ := zbd2E h
    refine zr_i (zr_runS (As := [.int a2, .int 0, .int 1]) S hX hE (kX8_in l D tc lo ad fr zq a2 0 1 w10002 x10004 w10005 ew10005) zyX8_in qm_X8_81 ⟨rfl, rfl⟩ ⟨Nat.le_of_ble_eq_true rfl, Nat.le_of_ble_eq_true rfl⟩ rfl hl.1 rfl (Nat.le_of_ble_eq_true rfl) dX8_slipped_13 ⟨Nat.zero_le _, Nat.zero_le _⟩) hE (fun H locs hE => ?_)
    refine lv_if_ne (tgt := 22) hx hb dX8_slipped_16 (by decide) (fun c10006 => ?_) (fun c10006 => ?_)
    · have h := zif' c10006 h
      refine lv_aload_n hx hb dX8_slipped_22 rfl (lv_at hl 0 rfl) ?_
      refine zr_getA S hK hE zcl_X8 (zm_0 w10005) 0 (Nat.le_of_ble_eq_true rfl) (q := 1) rfl qf_X8_9 dX8_slipped_23 ?_
      refine lv_bipush (v := 12) hx hb dX8_slipped_26 (by decide) ?_
      obtain ⟨x10007, ex10007, h⟩ := zbdE h
      refine zr_iald S hK hE (zm_1 w10005) dX8_slipped_28 ex10007 ?_
      refine lv_if_ge (tgt := 35) hx hb dX8_slipped_29 (by decide) (fun c10008 => ?_) (fun c10008 => ?_)
      · have h := zif c10008 h
        refine lv_aload_n hx hb dX8_slipped_35 rfl (lv_at hl 0 rfl) ?_
        obtain ⟨w10009, ew10009, h⟩ := zbdE h
        refine zr_v (zr_runV (As := []) S hX hE (kX8_thinks l D tc lo ad fr zq w10005 w10009 ew10009) zyX8_thinks qm_X8_216 zcl_X8 rfl (zm_0 w10005) ⟨rfl, rfl⟩ ⟨Nat.le_of_ble_eq_true rfl, Nat.le_of_ble_eq_true rfl⟩ rfl hl.1 rfl (Nat.le_of_ble_eq_true rfl) dX8_slipped_36 ⟨Nat.zero_le _, Nat.zero_le _⟩) hE (fun H locs hE => ?_)
        refine lv_iconst (v := 0) hx hb dX8_slipped_39 (by decide) ?_
        refine lv_istore_n (lv' := [(3, .int 0), (0, .ref (ad 0)), (1, .int a1), (2, .int a2)]) hx hb dX8_slipped_40 rfl hl (by decide) rfl (fun ls hl => ?_)
        refine lv_iconst (v := (-1)) hx hb dX8_slipped_41 (by decide) ?_
        obtain ⟨x10010, ex10010, h⟩ := zbdE h
        refine zr_topi ex10010 ?_
        refine lv_istore (lv' := [(4, .int x10010), (3, .int 0), (0, .ref (ad 0)), (1, .int a1), (2, .int a2)]) hx hb dX8_slipped_42 hl (by decide) rfl (fun ls hl => ?_)
        refine lv_iconst (v := 0) hx hb dX8_slipped_44 (by decide) ?_
        refine lv_istore (lv' := [(5, .int 0), (4, .int x10010), (3, .int 0), (0, .ref (ad 0)), (1, .int a1), (2, .int a2)]) hx hb dX8_slipped_45 hl (by decide) rfl (fun ls hl => ?_)
        exact L47 zfuel a1 a2 0 x10010 0 w10009 ls _ _ h (lv_sub hl [3, 4, 5, 2, 1, 0] rfl) hE
      · have h := zif' c10008 h
        refine zr_ldc S qc_X8_154 dX8_slipped_32 ?_
        exact zr_iret S hE hr hlk h dX8_slipped_34
    · have h := zif c10006 h
      refine zr_ldc S qc_X8_97 dX8_slipped_19 ?_
      exact zr_iret S hE hr hlk h dX8_slipped_21
set_option maxHeartbeats 4000000 in
set_option maxRecDepth 100000 in
theorem kX8_steps (l : Launch) (D : va_G) (tc : Nat → ClassId) (lo : Nat) (ad : Nat → Nat) (fr : va_W) (zq : zz_Q) (a1 : Int32) (w : zz_W) (r : Int32) (w_ : zz_W) (h : fX8_steps a1 w = some (r, w_)) : zMi l yX8_steps cX8_steps 3 (some .int) { frames := 6, cells := 0, slots := 0, locals := 141 } D tc lo ad zshM znnM fr zq [.ref (ad 0), .int a1] w r w_ := by
  refine zr_entry (by decide) (Nat.le_of_ble_eq_true rfl) fun p e s m args below meth c ls S hX hr hlk hE hl => ?_
  have S : CallFix p m c cX8_steps 3 s args (Cond.code yX8_steps cX8_steps 3 (some .int) :: zw_tb) RX8 := S
  have hx := S.1
  have hb := S.2.1
  have hK := hX.2.1
  have hl : lv_has ls 3 [(0, .ref (ad 0)), (1, .int a1)] := hl
  unfold fX8_steps at h
  refine lv_iload_n hx hb dX8_steps_0 rfl (lv_at hl 1 rfl) ?_
  refine lv_iconst (v := 1) hx hb dX8_steps_1 (by decide) ?_
  refine lv_bipush (v := 100) hx hb dX8_steps_2 (by decide) ?_
  obtain ⟨x10001, w10002, ew10002, h⟩ := zbd2E h
  refine zr_i (zr_runS (As := [.int a1, .int 1, .int 100]) S hX hE (kX8_in l D tc lo ad fr zq a1 1 100 w x10001 w10002 ew10002) zyX8_in qm_X8_81 ⟨rfl, rfl⟩ ⟨Nat.le_of_ble_eq_true rfl, Nat.le_of_ble_eq_true rfl⟩ rfl hl.1 rfl (Nat.le_of_ble_eq_true rfl) dX8_steps_4 ⟨Nat.zero_le _, Nat.zero_le _⟩) hE (fun H locs hE => ?_)
  refine lv_if_ne (tgt := 13) hx hb dX8_steps_7 (by decide) (fun c10003 => ?_) (fun c10003 => ?_)
  · have h := zif' c10003 h
    refine lv_aload_n hx hb dX8_steps_13 rfl (lv_at hl 0 rfl) ?_
    refine zr_getA S hK hE zcl_X8 (zm_0 w10002) 0 (Nat.le_of_ble_eq_true rfl) (q := 1) rfl qf_X8_9 dX8_steps_14 ?_
    refine lv_bipush (v := 9) hx hb dX8_steps_17 (by decide) ?_
    obtain ⟨x10004, ex10004, h⟩ := zbdE h
    refine zr_iald S hK hE (zm_1 w10002) dX8_steps_19 ex10004 ?_
    refine lv_istore_n (lv' := [(2, .int x10004), (0, .ref (ad 0)), (1, .int a1)]) hx hb dX8_steps_20 rfl hl (by decide) rfl (fun ls hl => ?_)
    refine lv_aload_n hx hb dX8_steps_21 rfl (lv_at hl 1 rfl) ?_
    refine lv_sipush (v := 9999) hx hb dX8_steps_22 (by decide) ?_
    refine lv_aload_n hx hb dX8_steps_25 rfl (lv_at hl 1 rfl) ?_
    refine zr_getA S hK hE zcl_X8 (zm_0 w10002) 0 (Nat.le_of_ble_eq_true rfl) (q := 1) rfl qf_X8_9 dX8_steps_26 ?_
    refine lv_iconst (v := 2) hx hb dX8_steps_29 (by decide) ?_
    obtain ⟨x10005, ex10005, h⟩ := zbdE h
    refine zr_iald S hK hE (zm_1 w10002) dX8_steps_30 ex10005 ?_
    refine lv_isub hx hb dX8_steps_31 ?_
    refine lv_iconst (v := 0) hx hb dX8_steps_32 (by decide) ?_
    refine lv_iload_n hx hb dX8_steps_33 rfl (lv_at hl 2 rfl) ?_
    obtain ⟨x10006, w10007, ew10007, h⟩ := zbd2E h
    refine zr_i (zr_runS (As := [.int (9999 - x10005), .int 0, .int a1]) S hX hE (kX8_within l D tc lo ad fr zq (9999 - x10005) 0 a1 w10002 x10006 w10007 ew10007) zyX8_within qm_X8_107 ⟨rfl, rfl⟩ ⟨Nat.le_of_ble_eq_true rfl, Nat.le_of_ble_eq_true rfl⟩ rfl hl.1 rfl (Nat.le_of_ble_eq_true rfl) dX8_steps_34 ⟨Nat.zero_le _, Nat.zero_le _⟩) hE (fun H locs hE => ?_)
    obtain ⟨w10008, ew10008, h⟩ := zbdE h
    refine zr_v (zr_runV (As := [.int x10006]) S hX hE (kX8_goesOn l D tc lo ad fr zq x10006 w10007 w10008 ew10008) zyX8_goesOn qm_X8_168 zcl_X8 rfl (zm_0 w10007) ⟨rfl, rfl⟩ ⟨Nat.le_of_ble_eq_true rfl, Nat.le_of_ble_eq_true rfl⟩ rfl hl.1 rfl (Nat.le_of_ble_eq_true rfl) dX8_steps_37 ⟨Nat.zero_le _, Nat.zero_le _⟩) hE (fun H locs hE => ?_)
    refine lv_aload_n hx hb dX8_steps_40 rfl (lv_at hl 1 rfl) ?_
    refine zr_getA S hK hE zcl_X8 (zm_0 w10008) 0 (Nat.le_of_ble_eq_true rfl) (q := 1) rfl qf_X8_9 dX8_steps_41 ?_
    refine lv_bipush (v := 9) hx hb dX8_steps_44 (by decide) ?_
    obtain ⟨x10009, ex10009, h⟩ := zbdE h
    refine zr_iald S hK hE (zm_1 w10008) dX8_steps_46 ex10009 ?_
    refine lv_iload_n hx hb dX8_steps_47 rfl (lv_at hl 0 rfl) ?_
    refine lv_isub hx hb dX8_steps_48 ?_
    exact zr_iret S hE hr hlk h dX8_steps_49
  · have h := zif c10003 h
    refine zr_ldc S qc_X8_97 dX8_steps_10 ?_
    exact zr_iret S hE hr hlk h dX8_steps_12
set_option maxHeartbeats 4000000 in
set_option maxRecDepth 100000 in
theorem kX8_takesPart (l : Launch) (D : va_G) (tc : Nat → ClassId) (lo : Nat) (ad : Nat → Nat) (fr : va_W) (zq : zz_Q) (w : zz_W) (r : Int32) (w_ : zz_W) (h : fX8_takesPart w = some (r, w_)) : zMi l yX8_takesPart cX8_takesPart 2 (some .boolean) { frames := 2, cells := 0, slots := 0, locals := 42 } D tc lo ad zshM znnM fr zq [.ref (ad 0)] w r w_ := by
  refine zr_entry (by decide) (Nat.le_of_ble_eq_true rfl) fun p e s m args below meth c ls S hX hr hlk hE hl => ?_
  have S : CallFix p m c cX8_takesPart 2 s args (Cond.code yX8_takesPart cX8_takesPart 2 (some .boolean) :: zw_tb) RX8 := S
  have hx := S.1
  have hb := S.2.1
  have hK := hX.2.1
  have hl : lv_has ls 2 [(0, .ref (ad 0))] := hl
  unfold fX8_takesPart at h
  have J87 : ∀ (s1 : Int32) (s2 : Int32) (w : zz_W) (ls : Array Slot) (H : Heap) (locs : List Loc), fX8_takesPart_87 s1 s2 w = some (r, w_) → lv_has ls 2 [(0, .ref (ad 0))] → zE D tc lo ad zshM znnM fr w s.heap H locs → W p l e { frames := 2, cells := 0, slots := 0, locals := 42 } s m args below meth c H locs 0 0 (zZi D tc lo ad zshM znnM fr below args s r w_) (F0 m 87 ls [.int s2, .int s1, .ref (ad 10)]) := by
    intro s1 s2 w ls H locs h hl hE
    unfold fX8_takesPart_87 at h
    obtain ⟨w53, ew53, h⟩ := zbdE h
    refine zr_iast S hK hE (zm_10 w) dX8_takesPart_87 ew53 (fun H locs hE => ?_)
    refine lv_aload_n hx hb dX8_takesPart_88 rfl (lv_at hl 0 rfl) ?_
    refine lv_dup hx hb dX8_takesPart_89 rfl ?_
    obtain ⟨x54, ex54, h⟩ := zbdE h
    refine zr_getI S hK hE zcl_X8 (zm_0 w53) 18 (Nat.le_of_ble_eq_true rfl) rfl qf_X8_259 dX8_takesPart_90 ex54 ?_
    refine lv_iconst (v := 1) hx hb dX8_takesPart_93 (by decide) ?_
    refine lv_iadd hx hb dX8_takesPart_94 ?_
    obtain ⟨w55, ew55, h⟩ := zbdE h
    refine zr_putI S hK hE zcl_X8 (zm_0 w53) 18 (Nat.le_of_ble_eq_true rfl) rfl rfl rfl qf_X8_259 dX8_takesPart_95 ew55 (fun H locs hE => ?_)
    refine lv_aload_n hx hb dX8_takesPart_98 rfl (lv_at hl 0 rfl) ?_
    refine lv_dup hx hb dX8_takesPart_99 rfl ?_
    obtain ⟨x56, ex56, h⟩ := zbdE h
    refine zr_getI S hK hE zcl_X8 (zm_0 w55) 19 (Nat.le_of_ble_eq_true rfl) rfl qf_X8_265 dX8_takesPart_100 ex56 ?_
    refine lv_iconst (v := 1) hx hb dX8_takesPart_103 (by decide) ?_
    refine lv_iadd hx hb dX8_takesPart_104 ?_
    obtain ⟨w57, ew57, h⟩ := zbdE h
    refine zr_putI S hK hE zcl_X8 (zm_0 w55) 19 (Nat.le_of_ble_eq_true rfl) rfl rfl rfl qf_X8_265 dX8_takesPart_105 ew57 (fun H locs hE => ?_)
    refine lv_aload_n hx hb dX8_takesPart_108 rfl (lv_at hl 0 rfl) ?_
    refine lv_bipush (v := 6) hx hb dX8_takesPart_109 (by decide) ?_
    obtain ⟨w58, ew58, h⟩ := zbdE h
    refine zr_v (zr_runV (As := [.int 6]) S hX hE (kX8_settle l D tc lo ad fr zq 6 w57 w58 ew58) zyX8_settle qm_X8_268 zcl_X8 rfl (zm_0 w57) ⟨rfl, rfl⟩ ⟨Nat.le_of_ble_eq_true rfl, Nat.le_of_ble_eq_true rfl⟩ rfl hl.1 rfl (Nat.le_of_ble_eq_true rfl) dX8_takesPart_111 ⟨Nat.zero_le _, Nat.zero_le _⟩) hE (fun H locs hE => ?_)
    refine lv_aload_n hx hb dX8_takesPart_114 rfl (lv_at hl 0 rfl) ?_
    obtain ⟨w59, ew59, h⟩ := zbdE h
    refine zr_v (zr_runV (As := []) S hX hE (kX8_go l D tc lo ad fr zq w58 w59 ew59) zyX8_go qm_X8_250 zcl_X8 rfl (zm_0 w58) ⟨rfl, rfl⟩ ⟨Nat.le_of_ble_eq_true rfl, Nat.le_of_ble_eq_true rfl⟩ rfl hl.1 rfl (Nat.le_of_ble_eq_true rfl) dX8_takesPart_115 ⟨Nat.zero_le _, Nat.zero_le _⟩) hE (fun H locs hE => ?_)
    refine lv_iconst (v := 1) hx hb dX8_takesPart_118 (by decide) ?_
    exact zr_zret S hE hr hlk (by decide) h dX8_takesPart_119
  have J52 : ∀ (w : zz_W) (ls : Array Slot) (H : Heap) (locs : List Loc), fX8_takesPart_52 w = some (r, w_) → lv_has ls 2 [(0, .ref (ad 0))] → zE D tc lo ad zshM znnM fr w s.heap H locs → W p l e { frames := 2, cells := 0, slots := 0, locals := 42 } s m args below meth c H locs 0 0 (zZi D tc lo ad zshM znnM fr below args s r w_) (F0 m 52 ls []) := by
    intro w ls H locs h hl hE
    unfold fX8_takesPart_52 at h
    refine lv_aload_n hx hb dX8_takesPart_52 rfl (lv_at hl 0 rfl) ?_
    refine zr_getA S hK hE zcl_X8 (zm_0 w) 17 (Nat.le_of_ble_eq_true rfl) (q := 10) rfl qf_X8_38 dX8_takesPart_53 ?_
    refine lv_aload_n hx hb dX8_takesPart_56 rfl (lv_at hl 0 rfl) ?_
    obtain ⟨x60, ex60, h⟩ := zbdE h
    refine zr_getI S hK hE zcl_X8 (zm_0 w) 18 (Nat.le_of_ble_eq_true rfl) rfl qf_X8_259 dX8_takesPart_57 ex60 ?_
    refine lv_aload_n hx hb dX8_takesPart_60 rfl (lv_at hl 0 rfl) ?_
    obtain ⟨x61, ex61, h⟩ := zbdE h
    refine zr_getI S hK hE zcl_X8 (zm_0 w) 11 (Nat.le_of_ble_eq_true rfl) rfl qf_X8_235 dX8_takesPart_61 ex61 ?_
    refine lv_iconst (v := 2) hx hb dX8_takesPart_64 (by decide) ?_
    refine lv_icmp_ne (tgt := 75) hx hb dX8_takesPart_65 (by decide) (fun c62 => ?_) (fun c62 => ?_)
    · have h := zif' c62 h
      refine lv_sipush (v := 10000) hx hb dX8_takesPart_75 (by decide) ?_
      refine lv_aload_n hx hb dX8_takesPart_78 rfl (lv_at hl 0 rfl) ?_
      refine lv_aload_n hx hb dX8_takesPart_79 rfl (lv_at hl 0 rfl) ?_
      obtain ⟨x63, ex63, h⟩ := zbdE h
      refine zr_getI S hK hE zcl_X8 (zm_0 w) 12 (Nat.le_of_ble_eq_true rfl) rfl qf_X8_241 dX8_takesPart_80 ex63 ?_
      obtain ⟨x64, w65, ew65, h⟩ := zbd2E h
      refine zr_i (zr_runV (As := [.int x63]) S hX hE (kX8_nameOf l D tc lo ad fr zq x63 w x64 w65 ew65) zyX8_nameOf qm_X8_262 zcl_X8 rfl (zm_0 w) ⟨rfl, rfl⟩ ⟨Nat.le_of_ble_eq_true rfl, Nat.le_of_ble_eq_true rfl⟩ rfl hl.1 rfl (Nat.le_of_ble_eq_true rfl) dX8_takesPart_83 ⟨Nat.zero_le _, Nat.zero_le _⟩) hE (fun H locs hE => ?_)
      refine lv_iadd hx hb dX8_takesPart_86 ?_
      exact J87 x60 (10000 + x64) w65 ls _ _ h (lv_sub hl [0] rfl) hE
    · have h := zif c62 h
      refine lv_aload_n hx hb dX8_takesPart_68 rfl (lv_at hl 0 rfl) ?_
      obtain ⟨x66, ex66, h⟩ := zbdE h
      refine zr_getI S hK hE zcl_X8 (zm_0 w) 12 (Nat.le_of_ble_eq_true rfl) rfl qf_X8_241 dX8_takesPart_69 ex66 ?_
      refine lv_goto (tgt := 87) hx hb dX8_takesPart_72 (by decide) ?_
      exact J87 x60 x66 w ls _ _ h (lv_sub hl [0] rfl) hE
  have J37 : ∀ (s0 : Int32) (w : zz_W) (ls : Array Slot) (H : Heap) (locs : List Loc), fX8_takesPart_37 s0 w = some (r, w_) → lv_has ls 2 [(0, .ref (ad 0))] → zE D tc lo ad zshM znnM fr w s.heap H locs → W p l e { frames := 2, cells := 0, slots := 0, locals := 42 } s m args below meth c H locs 0 0 (zZi D tc lo ad zshM znnM fr below args s r w_) (F0 m 37 ls [.int s0]) := by
    intro s0 w ls H locs h hl hE
    unfold fX8_takesPart_37 at h
    refine lv_istore_n (lv' := [(1, .int s0), (0, .ref (ad 0))]) hx hb dX8_takesPart_37 rfl hl (by decide) rfl (fun ls hl => ?_)
    refine lv_aload_n hx hb dX8_takesPart_38 rfl (lv_at hl 1 rfl) ?_
    obtain ⟨x67, ex67, h⟩ := zbdE h
    refine zr_getI S hK hE zcl_X8 (zm_0 w) 11 (Nat.le_of_ble_eq_true rfl) rfl qf_X8_235 dX8_takesPart_39 ex67 ?_
    refine lv_iconst (v := 2) hx hb dX8_takesPart_42 (by decide) ?_
    refine lv_icmp_eq (tgt := 52) hx hb dX8_takesPart_43 (by decide) (fun c68 => ?_) (fun c68 => ?_)
    · have h := zif c68 h
      exact J52 w ls _ _ h (lv_sub hl [1] rfl) hE
    · have h := zif' c68 h
      refine lv_iload_n hx hb dX8_takesPart_46 rfl (lv_at hl 0 rfl) ?_
      refine lv_if_ne (tgt := 52) hx hb dX8_takesPart_47 (by decide) (fun c69 => ?_) (fun c69 => ?_)
      · have h := zif' c69 h
        exact J52 w ls _ _ h (lv_sub hl [1] rfl) hE
      · have h := zif c69 h
        refine lv_iconst (v := 0) hx hb dX8_takesPart_50 (by decide) ?_
        exact zr_zret S hE hr hlk (by decide) h dX8_takesPart_51
  have J36 : ∀ (w : zz_W) (ls : Array Slot) (H : Heap) (locs : List Loc), fX8_takesPart_36 w = some (r, w_) → lv_has ls 2 [(0, .ref (ad 0))] → zE D tc lo ad zshM znnM fr w s.heap H locs → W p l e { frames := 2, cells := 0, slots := 0, locals := 42 } s m args below meth c H locs 0 0 (zZi D tc lo ad zshM znnM fr below args s r w_) (F0 m 36 ls []) := by
    intro w ls H locs h hl hE
    unfold fX8_takesPart_36 at h
    refine lv_iconst (v := 0) hx hb dX8_takesPart_36 (by decide) ?_
    exact J37 0 w ls _ _ h (lv_sub hl [0] rfl) hE
  refine lv_aload_n hx hb dX8_takesPart_0 rfl (lv_at hl 0 rfl) ?_
  obtain ⟨x10001, ex10001, h⟩ := zbdE h
  refine zr_getI S hK hE zcl_X8 (zm_0 w) 11 (Nat.le_of_ble_eq_true rfl) rfl qf_X8_235 dX8_takesPart_1 ex10001 ?_
  refine lv_iconst (v := 1) hx hb dX8_takesPart_4 (by decide) ?_
  refine lv_icmp_ne (tgt := 36) hx hb dX8_takesPart_5 (by decide) (fun c10002 => ?_) (fun c10002 => ?_)
  · have h := zif' c10002 h
    exact J36 w ls _ _ h (lv_sub hl [0] rfl) hE
  · have h := zif c10002 h
    refine lv_aload_n hx hb dX8_takesPart_8 rfl (lv_at hl 0 rfl) ?_
    obtain ⟨x10003, ex10003, h⟩ := zbdE h
    refine zr_getI S hK hE zcl_X8 (zm_0 w) 9 (Nat.le_of_ble_eq_true rfl) rfl qf_X8_226 dX8_takesPart_9 ex10003 ?_
    refine lv_aload_n hx hb dX8_takesPart_12 rfl (lv_at hl 0 rfl) ?_
    obtain ⟨x10004, ex10004, h⟩ := zbdE h
    refine zr_getI S hK hE zcl_X8 (zm_0 w) 10 (Nat.le_of_ble_eq_true rfl) rfl qf_X8_229 dX8_takesPart_13 ex10004 ?_
    refine lv_isub hx hb dX8_takesPart_16 ?_
    refine lv_iconst (v := 1) hx hb dX8_takesPart_17 (by decide) ?_
    refine lv_icmp_ne (tgt := 36) hx hb dX8_takesPart_18 (by decide) (fun c10005 => ?_) (fun c10005 => ?_)
    · have h := zif' c10005 h
      exact J36 w ls _ _ h (lv_sub hl [0] rfl) hE
    · have h := zif c10005 h
      refine lv_aload_n hx hb dX8_takesPart_21 rfl (lv_at hl 0 rfl) ?_
      refine lv_aload_n hx hb dX8_takesPart_22 rfl (lv_at hl 0 rfl) ?_
      obtain ⟨x10006, ex10006, h⟩ := zbdE h
      refine zr_getI S hK hE zcl_X8 (zm_0 w) 12 (Nat.le_of_ble_eq_true rfl) rfl qf_X8_241 dX8_takesPart_23 ex10006 ?_
      obtain ⟨x10007, w10008, ew10008, h⟩ := zbd2E h
      refine zr_i (zr_runV (As := [.int x10006]) S hX hE (kX8_nameOf l D tc lo ad fr zq x10006 w x10007 w10008 ew10008) zyX8_nameOf qm_X8_262 zcl_X8 rfl (zm_0 w) ⟨rfl, rfl⟩ ⟨Nat.le_of_ble_eq_true rfl, Nat.le_of_ble_eq_true rfl⟩ rfl hl.1 rfl (Nat.le_of_ble_eq_true rfl) dX8_takesPart_26 ⟨Nat.zero_le _, Nat.zero_le _⟩) hE (fun H locs hE => ?_)
      refine lv_if_lt (tgt := 36) hx hb dX8_takesPart_29 (by decide) (fun c10009 => ?_) (fun c10009 => ?_)
      · have h := zif c10009 h
        exact J36 w10008 ls _ _ h (lv_sub hl [0] rfl) hE
      · have h := zif' c10009 h
        refine lv_iconst (v := 1) hx hb dX8_takesPart_32 (by decide) ?_
        refine lv_goto (tgt := 37) hx hb dX8_takesPart_33 (by decide) ?_
        exact J37 1 w10008 ls _ _ h (lv_sub hl [0] rfl) hE
set_option maxHeartbeats 4000000 in
set_option maxRecDepth 100000 in
theorem kX8_takesE (l : Launch) (D : va_G) (tc : Nat → ClassId) (lo : Nat) (ad : Nat → Nat) (fr : va_W) (zq : zz_Q) (w : zz_W) (r : Int32) (w_ : zz_W) (h : fX8_takesE w = some (r, w_)) : zMi l yX8_takesE cX8_takesE 5 (some .boolean) { frames := 3, cells := 0, slots := 0, locals := 63 } D tc lo ad zshM znnM fr zq [.ref (ad 0)] w r w_ := by
  refine zr_entry (by decide) (Nat.le_of_ble_eq_true rfl) fun p e s m args below meth c ls S hX hr hlk hE hl => ?_
  have S : CallFix p m c cX8_takesE 5 s args (Cond.code yX8_takesE cX8_takesE 5 (some .boolean) :: zw_tb) RX8 := S
  have hx := S.1
  have hb := S.2.1
  have hK := hX.2.1
  have hl : lv_has ls 5 [(0, .ref (ad 0))] := hl
  unfold fX8_takesE at h
  have L28 : ∀ (n : Nat) (l1 : Int32) (l2 : Int32) (l3 : Int32) (w : zz_W) (ls : Array Slot) (H : Heap) (locs : List Loc), fX8_takesE_28 n l1 l2 l3 w = some (r, w_) → lv_has ls 5 [(0, .ref (ad 0)), (1, .int l1), (2, .int l2), (3, .int l3)] → zE D tc lo ad zshM znnM fr w s.heap H locs → W p l e { frames := 3, cells := 0, slots := 0, locals := 63 } s m args below meth c H locs 0 0 (zZi D tc lo ad zshM znnM fr below args s r w_) (F0 m 28 ls []) := by
    intro n28
    induction n28 with
    | zero => intro l1 l2 l3 w ls H locs h hl hE; rw [fX8_takesE_28] at h; cases h
    | succ n28 ih28 =>
      intro l1 l2 l3 w ls H locs h hl hE
      rw [fX8_takesE_28] at h
      have J305 : ∀ (l1 : Int32) (l2 : Int32) (l4 : Int32) (s1 : Int32) (s2 : Int32) (w : zz_W) (ls : Array Slot) (H : Heap) (locs : List Loc), fX8_takesE_305 (fX8_takesE_28 n28) l1 l2 l4 s1 s2 w = some (r, w_) → lv_has ls 5 [(0, .ref (ad 0)), (1, .int l1), (2, .int l2), (4, .int l4)] → zE D tc lo ad zshM znnM fr w s.heap H locs → W p l e { frames := 3, cells := 0, slots := 0, locals := 63 } s m args below meth c H locs 0 0 (zZi D tc lo ad zshM znnM fr below args s r w_) (F0 m 305 ls [.int s2, .int s1, .ref (ad 12)]) := by
        intro l1 l2 l4 s1 s2 w ls H locs h hl hE
        unfold fX8_takesE_305 at h
        obtain ⟨w153, ew153, h⟩ := zbdE h
        refine zr_zast S hK hE (zm_12 w) dX8_takesE_305 ew153 (fun H locs hE => ?_)
        refine lv_aload_n hx hb dX8_takesE_306 rfl (lv_at hl 0 rfl) ?_
        refine lv_iload hx hb dX8_takesE_307 (lv_at hl 3 rfl) ?_
        obtain ⟨x154, w155, ew155, h⟩ := zbd2E h
        refine zr_i (zr_runS (As := [.int l4]) S hX hE (kX8_rank l D tc lo ad fr zq l4 w153 x154 w155 ew155) zyX8_rank qm_X8_256 ⟨rfl, rfl⟩ ⟨Nat.le_of_ble_eq_true rfl, Nat.le_of_ble_eq_true rfl⟩ rfl hl.1 rfl (Nat.le_of_ble_eq_true rfl) dX8_takesE_309 ⟨Nat.zero_le _, Nat.zero_le _⟩) hE (fun H locs hE => ?_)
        obtain ⟨w156, ew156, h⟩ := zbdE h
        refine zr_v (zr_runV (As := [.int x154]) S hX hE (kX8_settle l D tc lo ad fr zq x154 w155 w156 ew156) zyX8_settle qm_X8_268 zcl_X8 rfl (zm_0 w155) ⟨rfl, rfl⟩ ⟨Nat.le_of_ble_eq_true rfl, Nat.le_of_ble_eq_true rfl⟩ rfl hl.1 rfl (Nat.le_of_ble_eq_true rfl) dX8_takesE_312 ⟨Nat.zero_le _, Nat.zero_le _⟩) hE (fun H locs hE => ?_)
        refine lv_aload_n hx hb dX8_takesE_315 rfl (lv_at hl 0 rfl) ?_
        refine zr_getA S hK hE zcl_X8 (zm_0 w156) 20 (Nat.le_of_ble_eq_true rfl) (q := 11) rfl qf_X8_41 dX8_takesE_316 ?_
        refine lv_aload_n hx hb dX8_takesE_319 rfl (lv_at hl 0 rfl) ?_
        obtain ⟨x157, ex157, h⟩ := zbdE h
        refine zr_getI S hK hE zcl_X8 (zm_0 w156) 21 (Nat.le_of_ble_eq_true rfl) rfl qf_X8_253 dX8_takesE_320 ex157 ?_
        refine lv_iload hx hb dX8_takesE_323 (lv_at hl 3 rfl) ?_
        obtain ⟨w158, ew158, h⟩ := zbdE h
        refine zr_iast S hK hE (zm_11 w156) dX8_takesE_325 ew158 (fun H locs hE => ?_)
        refine lv_aload_n hx hb dX8_takesE_326 rfl (lv_at hl 0 rfl) ?_
        refine lv_dup hx hb dX8_takesE_327 rfl ?_
        obtain ⟨x159, ex159, h⟩ := zbdE h
        refine zr_getI S hK hE zcl_X8 (zm_0 w158) 21 (Nat.le_of_ble_eq_true rfl) rfl qf_X8_253 dX8_takesE_328 ex159 ?_
        refine lv_iconst (v := 1) hx hb dX8_takesE_331 (by decide) ?_
        refine lv_iadd hx hb dX8_takesE_332 ?_
        obtain ⟨w160, ew160, h⟩ := zbdE h
        refine zr_putI S hK hE zcl_X8 (zm_0 w158) 21 (Nat.le_of_ble_eq_true rfl) rfl rfl rfl qf_X8_253 dX8_takesE_333 ew160 (fun H locs hE => ?_)
        refine lv_iconst (v := 1) hx hb dX8_takesE_336 (by decide) ?_
        refine lv_istore_n (lv' := [(3, .int 1), (0, .ref (ad 0)), (1, .int l1), (2, .int l2), (4, .int l4)]) hx hb dX8_takesE_337 rfl hl (by decide) rfl (fun ls hl => ?_)
        refine lv_aload_n hx hb dX8_takesE_338 rfl (lv_at hl 1 rfl) ?_
        obtain ⟨w161, ew161, h⟩ := zbdE h
        refine zr_v (zr_runV (As := []) S hX hE (kX8_go l D tc lo ad fr zq w160 w161 ew161) zyX8_go qm_X8_250 zcl_X8 rfl (zm_0 w160) ⟨rfl, rfl⟩ ⟨Nat.le_of_ble_eq_true rfl, Nat.le_of_ble_eq_true rfl⟩ rfl hl.1 rfl (Nat.le_of_ble_eq_true rfl) dX8_takesE_339 ⟨Nat.zero_le _, Nat.zero_le _⟩) hE (fun H locs hE => ?_)
        refine lv_goto (tgt := 28) hx hb dX8_takesE_342 (by decide) ?_
        exact ih28 l1 l2 1 w161 ls _ _ h (lv_sub hl [1, 2, 3, 0] rfl) hE
      have J304 : ∀ (l1 : Int32) (l2 : Int32) (l4 : Int32) (s1 : Int32) (w : zz_W) (ls : Array Slot) (H : Heap) (locs : List Loc), fX8_takesE_304 (fX8_takesE_28 n28) l1 l2 l4 s1 w = some (r, w_) → lv_has ls 5 [(0, .ref (ad 0)), (1, .int l1), (2, .int l2), (4, .int l4)] → zE D tc lo ad zshM znnM fr w s.heap H locs → W p l e { frames := 3, cells := 0, slots := 0, locals := 63 } s m args below meth c H locs 0 0 (zZi D tc lo ad zshM znnM fr below args s r w_) (F0 m 304 ls [.int s1, .ref (ad 12)]) := by
        intro l1 l2 l4 s1 w ls H locs h hl hE
        unfold fX8_takesE_304 at h
        refine lv_iconst (v := 0) hx hb dX8_takesE_304 (by decide) ?_
        exact J305 l1 l2 l4 s1 0 w ls _ _ h (lv_sub hl [0, 1, 2, 3] rfl) hE
      have J300 : ∀ (l1 : Int32) (l2 : Int32) (l4 : Int32) (s1 : Int32) (w : zz_W) (ls : Array Slot) (H : Heap) (locs : List Loc), fX8_takesE_300 (fX8_takesE_28 n28) l1 l2 l4 s1 w = some (r, w_) → lv_has ls 5 [(0, .ref (ad 0)), (1, .int l1), (2, .int l2), (4, .int l4)] → zE D tc lo ad zshM znnM fr w s.heap H locs → W p l e { frames := 3, cells := 0, slots := 0, locals := 63 } s m args below meth c H locs 0 0 (zZi D tc lo ad zshM znnM fr below args s r w_) (F0 m 300 ls [.int s1, .ref (ad 12)]) := by
        intro l1 l2 l4 s1 w ls H locs h hl hE
        unfold fX8_takesE_300 at h
        refine lv_iconst (v := 1) hx hb dX8_takesE_300 (by decide) ?_
        refine lv_goto (tgt := 305) hx hb dX8_takesE_301 (by decide) ?_
        exact J305 l1 l2 l4 s1 1 w ls _ _ h (lv_sub hl [0, 1, 2, 3] rfl) hE
      have J268 : ∀ (l1 : Int32) (l2 : Int32) (l4 : Int32) (w : zz_W) (ls : Array Slot) (H : Heap) (locs : List Loc), fX8_takesE_268 (fX8_takesE_28 n28) l1 l2 l4 w = some (r, w_) → lv_has ls 5 [(0, .ref (ad 0)), (1, .int l1), (2, .int l2), (4, .int l4)] → zE D tc lo ad zshM znnM fr w s.heap H locs → W p l e { frames := 3, cells := 0, slots := 0, locals := 63 } s m args below meth c H locs 0 0 (zZi D tc lo ad zshM znnM fr below args s r w_) (F0 m 268 ls []) := by
        intro l1 l2 l4 w ls H locs h hl hE
        unfold fX8_takesE_268 at h
        refine lv_aload_n hx hb dX8_takesE_268 rfl (lv_at hl 0 rfl) ?_
        refine zr_getA S hK hE zcl_X8 (zm_0 w) 22 (Nat.le_of_ble_eq_true rfl) (q := 12) rfl qf_X8_44 dX8_takesE_269 ?_
        refine lv_iload_n hx hb dX8_takesE_272 rfl (lv_at hl 1 rfl) ?_
        refine lv_iload hx hb dX8_takesE_273 (lv_at hl 3 rfl) ?_
        obtain ⟨x162, w163, ew163, h⟩ := zbd2E h
        refine zr_i (zr_runS (As := [.int l4]) S hX hE (kX8_rank l D tc lo ad fr zq l4 w x162 w163 ew163) zyX8_rank qm_X8_256 ⟨rfl, rfl⟩ ⟨Nat.le_of_ble_eq_true rfl, Nat.le_of_ble_eq_true rfl⟩ rfl hl.1 rfl (Nat.le_of_ble_eq_true rfl) dX8_takesE_275 ⟨Nat.zero_le _, Nat.zero_le _⟩) hE (fun H locs hE => ?_)
        refine lv_iconst (v := 3) hx hb dX8_takesE_278 (by decide) ?_
        refine lv_icmp_eq (tgt := 300) hx hb dX8_takesE_279 (by decide) (fun c164 => ?_) (fun c164 => ?_)
        · have h := zif c164 h
          exact J300 l1 l2 l4 l1 w163 ls _ _ h (lv_sub hl [0, 1, 2, 3] rfl) hE
        · have h := zif' c164 h
          refine lv_iload hx hb dX8_takesE_282 (lv_at hl 3 rfl) ?_
          obtain ⟨x165, w166, ew166, h⟩ := zbd2E h
          refine zr_i (zr_runS (As := [.int l4]) S hX hE (kX8_rank l D tc lo ad fr zq l4 w163 x165 w166 ew166) zyX8_rank qm_X8_256 ⟨rfl, rfl⟩ ⟨Nat.le_of_ble_eq_true rfl, Nat.le_of_ble_eq_true rfl⟩ rfl hl.1 rfl (Nat.le_of_ble_eq_true rfl) dX8_takesE_284 ⟨Nat.zero_le _, Nat.zero_le _⟩) hE (fun H locs hE => ?_)
          refine lv_iconst (v := 3) hx hb dX8_takesE_287 (by decide) ?_
          refine lv_icmp_le (tgt := 304) hx hb dX8_takesE_288 (by decide) (fun c167 => ?_) (fun c167 => ?_)
          · have h := zif c167 h
            exact J304 l1 l2 l4 l1 w166 ls _ _ h (lv_sub hl [0, 1, 2, 3] rfl) hE
          · have h := zif' c167 h
            refine lv_aload_n hx hb dX8_takesE_291 rfl (lv_at hl 0 rfl) ?_
            refine zr_getA S hK hE zcl_X8 (zm_0 w166) 22 (Nat.le_of_ble_eq_true rfl) (q := 12) rfl qf_X8_44 dX8_takesE_292 ?_
            refine lv_iload_n hx hb dX8_takesE_295 rfl (lv_at hl 1 rfl) ?_
            obtain ⟨x168, ex168, h⟩ := zbdE h
            refine zr_zald S hK hE (zm_12 w166) dX8_takesE_296 ex168 ?_
            refine lv_if_eq (tgt := 304) hx hb dX8_takesE_297 (by decide) (fun c169 => ?_) (fun c169 => ?_)
            · have h := zif c169 h
              exact J304 l1 l2 l4 l1 w166 ls _ _ h (lv_sub hl [0, 1, 2, 3] rfl) hE
            · have h := zif' c169 h
              exact J300 l1 l2 l4 l1 w166 ls _ _ h (lv_sub hl [0, 1, 2, 3] rfl) hE
      have J237 : ∀ (l1 : Int32) (l2 : Int32) (w : zz_W) (ls : Array Slot) (H : Heap) (locs : List Loc), fX8_takesE_237 (fX8_takesE_28 n28) l1 l2 w = some (r, w_) → lv_has ls 5 [(0, .ref (ad 0)), (1, .int l1), (2, .int l2)] → zE D tc lo ad zshM znnM fr w s.heap H locs → W p l e { frames := 3, cells := 0, slots := 0, locals := 63 } s m args below meth c H locs 0 0 (zZi D tc lo ad zshM znnM fr below args s r w_) (F0 m 237 ls []) := by
        intro l1 l2 w ls H locs h hl hE
        unfold fX8_takesE_237 at h
        refine lv_aload_n hx hb dX8_takesE_237 rfl (lv_at hl 0 rfl) ?_
        obtain ⟨x170, w171, ew171, h⟩ := zbd2E h
        refine zr_i (zr_runV (As := []) S hX hE (kX8_signHere l D tc lo ad fr zq w x170 w171 ew171) zyX8_signHere qm_X8_277 zcl_X8 rfl (zm_0 w) ⟨rfl, rfl⟩ ⟨Nat.le_of_ble_eq_true rfl, Nat.le_of_ble_eq_true rfl⟩ rfl hl.1 rfl (Nat.le_of_ble_eq_true rfl) dX8_takesE_238 ⟨Nat.zero_le _, Nat.zero_le _⟩) hE (fun H locs hE => ?_)
        refine lv_istore (lv' := [(4, .int x170), (0, .ref (ad 0)), (1, .int l1), (2, .int l2)]) hx hb dX8_takesE_241 hl (by decide) rfl (fun ls hl => ?_)
        refine lv_iload hx hb dX8_takesE_243 (lv_at hl 0 rfl) ?_
        refine lv_if_eq (tgt := 266) hx hb dX8_takesE_245 (by decide) (fun c172 => ?_) (fun c172 => ?_)
        · have h := zif c172 h
          refine lv_iconst (v := 0) hx hb dX8_takesE_266 (by decide) ?_
          exact zr_zret S hE hr hlk (by decide) h dX8_takesE_267
        · have h := zif' c172 h
          refine lv_iload hx hb dX8_takesE_248 (lv_at hl 0 rfl) ?_
          obtain ⟨x173, w174, ew174, h⟩ := zbd2E h
          refine zr_i (zr_runS (As := [.int x170]) S hX hE (kX8_rank l D tc lo ad fr zq x170 w171 x173 w174 ew174) zyX8_rank qm_X8_256 ⟨rfl, rfl⟩ ⟨Nat.le_of_ble_eq_true rfl, Nat.le_of_ble_eq_true rfl⟩ rfl hl.1 rfl (Nat.le_of_ble_eq_true rfl) dX8_takesE_250 ⟨Nat.zero_le _, Nat.zero_le _⟩) hE (fun H locs hE => ?_)
          refine lv_iconst (v := 3) hx hb dX8_takesE_253 (by decide) ?_
          refine lv_icmp_ne (tgt := 268) hx hb dX8_takesE_254 (by decide) (fun c175 => ?_) (fun c175 => ?_)
          · have h := zif' c175 h
            exact J268 l1 l2 x170 w174 ls _ _ h (lv_sub hl [1, 2, 3, 0] rfl) hE
          · have h := zif c175 h
            refine lv_aload_n hx hb dX8_takesE_257 rfl (lv_at hl 1 rfl) ?_
            refine zr_getA S hK hE zcl_X8 (zm_0 w174) 22 (Nat.le_of_ble_eq_true rfl) (q := 12) rfl qf_X8_44 dX8_takesE_258 ?_
            refine lv_iload_n hx hb dX8_takesE_261 rfl (lv_at hl 2 rfl) ?_
            obtain ⟨x176, ex176, h⟩ := zbdE h
            refine zr_zald S hK hE (zm_12 w174) dX8_takesE_262 ex176 ?_
            refine lv_if_eq (tgt := 268) hx hb dX8_takesE_263 (by decide) (fun c177 => ?_) (fun c177 => ?_)
            · have h := zif c177 h
              exact J268 l1 l2 x170 w174 ls _ _ h (lv_sub hl [1, 2, 3, 0] rfl) hE
            · have h := zif' c177 h
              refine lv_iconst (v := 0) hx hb dX8_takesE_266 (by decide) ?_
              exact zr_zret S hE hr hlk (by decide) h dX8_takesE_267
      have J172 : ∀ (l1 : Int32) (l3 : Int32) (w : zz_W) (ls : Array Slot) (H : Heap) (locs : List Loc), fX8_takesE_172 (fX8_takesE_28 n28) l1 l3 w = some (r, w_) → lv_has ls 5 [(0, .ref (ad 0)), (1, .int l1), (3, .int l3)] → zE D tc lo ad zshM znnM fr w s.heap H locs → W p l e { frames := 3, cells := 0, slots := 0, locals := 63 } s m args below meth c H locs 0 0 (zZi D tc lo ad zshM znnM fr below args s r w_) (F0 m 172 ls []) := by
        intro l1 l3 w ls H locs h hl hE
        unfold fX8_takesE_172 at h
        refine lv_aload_n hx hb dX8_takesE_172 rfl (lv_at hl 0 rfl) ?_
        obtain ⟨x178, w179, ew179, h⟩ := zbd2E h
        refine zr_i (zr_runV (As := []) S hX hE (kX8_notsOpen l D tc lo ad fr zq w x178 w179 ew179) zyX8_notsOpen qm_X8_274 zcl_X8 rfl (zm_0 w) ⟨rfl, rfl⟩ ⟨Nat.le_of_ble_eq_true rfl, Nat.le_of_ble_eq_true rfl⟩ rfl hl.1 rfl (Nat.le_of_ble_eq_true rfl) dX8_takesE_173 ⟨Nat.zero_le _, Nat.zero_le _⟩) hE (fun H locs hE => ?_)
        refine lv_istore_n (lv' := [(2, .int x178), (0, .ref (ad 0)), (1, .int l1), (3, .int l3)]) hx hb dX8_takesE_176 rfl hl (by decide) rfl (fun ls hl => ?_)
        refine lv_goto (tgt := 28) hx hb dX8_takesE_177 (by decide) ?_
        exact ih28 l1 x178 l3 w179 ls _ _ h (lv_sub hl [1, 2, 0, 3] rfl) hE
      have J158 : ∀ (l1 : Int32) (w : zz_W) (ls : Array Slot) (H : Heap) (locs : List Loc), fX8_takesE_158 (fX8_takesE_28 n28) l1 w = some (r, w_) → lv_has ls 5 [(0, .ref (ad 0)), (1, .int l1)] → zE D tc lo ad zshM znnM fr w s.heap H locs → W p l e { frames := 3, cells := 0, slots := 0, locals := 63 } s m args below meth c H locs 0 0 (zZi D tc lo ad zshM znnM fr below args s r w_) (F0 m 158 ls []) := by
        intro l1 w ls H locs h hl hE
        unfold fX8_takesE_158 at h
        refine lv_aload_n hx hb dX8_takesE_158 rfl (lv_at hl 0 rfl) ?_
        obtain ⟨x180, w181, ew181, h⟩ := zbd2E h
        refine zr_i (zr_runV (As := []) S hX hE (kX8_takesPart l D tc lo ad fr zq w x180 w181 ew181) zyX8_takesPart qm_X8_271 zcl_X8 rfl (zm_0 w) ⟨rfl, rfl⟩ ⟨Nat.le_of_ble_eq_true rfl, Nat.le_of_ble_eq_true rfl⟩ rfl hl.1 rfl (Nat.le_of_ble_eq_true rfl) dX8_takesE_159 ⟨Nat.zero_le _, Nat.zero_le _⟩) hE (fun H locs hE => ?_)
        refine lv_if_eq (tgt := 170) hx hb dX8_takesE_162 (by decide) (fun c182 => ?_) (fun c182 => ?_)
        · have h := zif c182 h
          refine lv_iconst (v := 0) hx hb dX8_takesE_170 (by decide) ?_
          exact zr_zret S hE hr hlk (by decide) h dX8_takesE_171
        · have h := zif' c182 h
          refine lv_iconst (v := 0) hx hb dX8_takesE_165 (by decide) ?_
          refine lv_istore_n (lv' := [(3, .int 0), (0, .ref (ad 0)), (1, .int l1)]) hx hb dX8_takesE_166 rfl hl (by decide) rfl (fun ls hl => ?_)
          refine lv_goto (tgt := 172) hx hb dX8_takesE_167 (by decide) ?_
          exact J172 l1 0 w181 ls _ _ h (lv_sub hl [1, 2, 0] rfl) hE
      have J97 : ∀ (l1 : Int32) (l3 : Int32) (w : zz_W) (ls : Array Slot) (H : Heap) (locs : List Loc), fX8_takesE_97 (fX8_takesE_28 n28) l1 l3 w = some (r, w_) → lv_has ls 5 [(0, .ref (ad 0)), (1, .int l1), (3, .int l3)] → zE D tc lo ad zshM znnM fr w s.heap H locs → W p l e { frames := 3, cells := 0, slots := 0, locals := 63 } s m args below meth c H locs 0 0 (zZi D tc lo ad zshM znnM fr below args s r w_) (F0 m 97 ls []) := by
        intro l1 l3 w ls H locs h hl hE
        unfold fX8_takesE_97 at h
        refine lv_aload_n hx hb dX8_takesE_97 rfl (lv_at hl 0 rfl) ?_
        obtain ⟨x183, ex183, h⟩ := zbdE h
        refine zr_getI S hK hE zcl_X8 (zm_0 w) 11 (Nat.le_of_ble_eq_true rfl) rfl qf_X8_235 dX8_takesE_98 ex183 ?_
        refine lv_iconst (v := 3) hx hb dX8_takesE_101 (by decide) ?_
        refine lv_icmp_ne (tgt := 158) hx hb dX8_takesE_102 (by decide) (fun c184 => ?_) (fun c184 => ?_)
        · have h := zif' c184 h
          exact J158 l1 w ls _ _ h (lv_sub hl [0, 1] rfl) hE
        · have h := zif c184 h
          refine lv_aload_n hx hb dX8_takesE_105 rfl (lv_at hl 0 rfl) ?_
          obtain ⟨x185, ex185, h⟩ := zbdE h
          refine zr_getI S hK hE zcl_X8 (zm_0 w) 12 (Nat.le_of_ble_eq_true rfl) rfl qf_X8_241 dX8_takesE_106 ex185 ?_
          refine lv_bipush (v := 40) hx hb dX8_takesE_109 (by decide) ?_
          refine lv_icmp_ne (tgt := 158) hx hb dX8_takesE_111 (by decide) (fun c186 => ?_) (fun c186 => ?_)
          · have h := zif' c186 h
            exact J158 l1 w ls _ _ h (lv_sub hl [0, 1] rfl) hE
          · have h := zif c186 h
            refine lv_iload_n hx hb dX8_takesE_114 rfl (lv_at hl 1 rfl) ?_
            refine lv_bipush (v := 8) hx hb dX8_takesE_115 (by decide) ?_
            refine lv_icmp_ge (tgt := 158) hx hb dX8_takesE_117 (by decide) (fun c187 => ?_) (fun c187 => ?_)
            · have h := zif c187 h
              exact J158 l1 w ls _ _ h (lv_sub hl [0, 1] rfl) hE
            · have h := zif' c187 h
              refine lv_aload_n hx hb dX8_takesE_120 rfl (lv_at hl 0 rfl) ?_
              refine zr_getA S hK hE zcl_X8 (zm_0 w) 20 (Nat.le_of_ble_eq_true rfl) (q := 11) rfl qf_X8_41 dX8_takesE_121 ?_
              refine lv_aload_n hx hb dX8_takesE_124 rfl (lv_at hl 0 rfl) ?_
              obtain ⟨x188, ex188, h⟩ := zbdE h
              refine zr_getI S hK hE zcl_X8 (zm_0 w) 21 (Nat.le_of_ble_eq_true rfl) rfl qf_X8_253 dX8_takesE_125 ex188 ?_
              refine lv_bipush (v := (-11)) hx hb dX8_takesE_128 (by decide) ?_
              obtain ⟨w189, ew189, h⟩ := zbdE h
              refine zr_iast S hK hE (zm_11 w) dX8_takesE_130 ew189 (fun H locs hE => ?_)
              refine lv_aload_n hx hb dX8_takesE_131 rfl (lv_at hl 0 rfl) ?_
              refine lv_dup hx hb dX8_takesE_132 rfl ?_
              obtain ⟨x190, ex190, h⟩ := zbdE h
              refine zr_getI S hK hE zcl_X8 (zm_0 w189) 21 (Nat.le_of_ble_eq_true rfl) rfl qf_X8_253 dX8_takesE_133 ex190 ?_
              refine lv_iconst (v := 1) hx hb dX8_takesE_136 (by decide) ?_
              refine lv_iadd hx hb dX8_takesE_137 ?_
              obtain ⟨w191, ew191, h⟩ := zbdE h
              refine zr_putI S hK hE zcl_X8 (zm_0 w189) 21 (Nat.le_of_ble_eq_true rfl) rfl rfl rfl qf_X8_253 dX8_takesE_138 ew191 (fun H locs hE => ?_)
              obtain ⟨x192, ex192, h⟩ := zbdE h
              refine lv_iinc (v := x192) (lv' := [(1, .int x192), (0, .ref (ad 0)), (3, .int l3)]) hx hb dX8_takesE_141 hl (k := 1) rfl (zinc (k := 1) (by decide) ex192) (by decide) rfl (fun ls hl => ?_)
              refine lv_aload_n hx hb dX8_takesE_144 rfl (lv_at hl 1 rfl) ?_
              refine zr_getA S hK hE zcl_X8 (zm_0 w191) 22 (Nat.le_of_ble_eq_true rfl) (q := 12) rfl qf_X8_44 dX8_takesE_145 ?_
              refine lv_iload_n hx hb dX8_takesE_148 rfl (lv_at hl 0 rfl) ?_
              refine lv_iconst (v := 0) hx hb dX8_takesE_149 (by decide) ?_
              obtain ⟨w193, ew193, h⟩ := zbdE h
              refine zr_zast S hK hE (zm_12 w191) dX8_takesE_150 ew193 (fun H locs hE => ?_)
              refine lv_aload_n hx hb dX8_takesE_151 rfl (lv_at hl 1 rfl) ?_
              obtain ⟨w194, ew194, h⟩ := zbdE h
              refine zr_v (zr_runV (As := []) S hX hE (kX8_go l D tc lo ad fr zq w193 w194 ew194) zyX8_go qm_X8_250 zcl_X8 rfl (zm_0 w193) ⟨rfl, rfl⟩ ⟨Nat.le_of_ble_eq_true rfl, Nat.le_of_ble_eq_true rfl⟩ rfl hl.1 rfl (Nat.le_of_ble_eq_true rfl) dX8_takesE_152 ⟨Nat.zero_le _, Nat.zero_le _⟩) hE (fun H locs hE => ?_)
              refine lv_goto (tgt := 172) hx hb dX8_takesE_155 (by decide) ?_
              exact J172 x192 l3 w194 ls _ _ h (lv_sub hl [1, 0, 2] rfl) hE
      have J39 : ∀ (l1 : Int32) (l2 : Int32) (l3 : Int32) (w : zz_W) (ls : Array Slot) (H : Heap) (locs : List Loc), fX8_takesE_39 (fX8_takesE_28 n28) l1 l2 l3 w = some (r, w_) → lv_has ls 5 [(0, .ref (ad 0)), (1, .int l1), (2, .int l2), (3, .int l3)] → zE D tc lo ad zshM znnM fr w s.heap H locs → W p l e { frames := 3, cells := 0, slots := 0, locals := 63 } s m args below meth c H locs 0 0 (zZi D tc lo ad zshM znnM fr below args s r w_) (F0 m 39 ls []) := by
        intro l1 l2 l3 w ls H locs h hl hE
        unfold fX8_takesE_39 at h
        refine lv_iload_n hx hb dX8_takesE_39 rfl (lv_at hl 3 rfl) ?_
        refine lv_if_eq (tgt := 180) hx hb dX8_takesE_40 (by decide) (fun c195 => ?_) (fun c195 => ?_)
        · have h := zif c195 h
          refine lv_aload_n hx hb dX8_takesE_180 rfl (lv_at hl 0 rfl) ?_
          obtain ⟨x196, ex196, h⟩ := zbdE h
          refine zr_getI S hK hE zcl_X8 (zm_0 w) 11 (Nat.le_of_ble_eq_true rfl) rfl qf_X8_235 dX8_takesE_181 ex196 ?_
          refine lv_iconst (v := 3) hx hb dX8_takesE_184 (by decide) ?_
          refine lv_icmp_ne (tgt := 237) hx hb dX8_takesE_185 (by decide) (fun c197 => ?_) (fun c197 => ?_)
          · have h := zif' c197 h
            exact J237 l1 l2 w ls _ _ h (lv_sub hl [0, 1, 2] rfl) hE
          · have h := zif c197 h
            refine lv_aload_n hx hb dX8_takesE_188 rfl (lv_at hl 0 rfl) ?_
            obtain ⟨x198, ex198, h⟩ := zbdE h
            refine zr_getI S hK hE zcl_X8 (zm_0 w) 12 (Nat.le_of_ble_eq_true rfl) rfl qf_X8_241 dX8_takesE_189 ex198 ?_
            refine lv_bipush (v := 41) hx hb dX8_takesE_192 (by decide) ?_
            refine lv_icmp_ne (tgt := 237) hx hb dX8_takesE_194 (by decide) (fun c199 => ?_) (fun c199 => ?_)
            · have h := zif' c199 h
              exact J237 l1 l2 w ls _ _ h (lv_sub hl [0, 1, 2] rfl) hE
            · have h := zif c199 h
              refine lv_iload_n hx hb dX8_takesE_197 rfl (lv_at hl 1 rfl) ?_
              refine lv_if_le (tgt := 237) hx hb dX8_takesE_198 (by decide) (fun c200 => ?_) (fun c200 => ?_)
              · have h := zif c200 h
                exact J237 l1 l2 w ls _ _ h (lv_sub hl [0, 1, 2] rfl) hE
              · have h := zif' c200 h
                refine lv_aload_n hx hb dX8_takesE_201 rfl (lv_at hl 0 rfl) ?_
                refine lv_iconst (v := 0) hx hb dX8_takesE_202 (by decide) ?_
                obtain ⟨w201, ew201, h⟩ := zbdE h
                refine zr_v (zr_runV (As := [.int 0]) S hX hE (kX8_settle l D tc lo ad fr zq 0 w w201 ew201) zyX8_settle qm_X8_268 zcl_X8 rfl (zm_0 w) ⟨rfl, rfl⟩ ⟨Nat.le_of_ble_eq_true rfl, Nat.le_of_ble_eq_true rfl⟩ rfl hl.1 rfl (Nat.le_of_ble_eq_true rfl) dX8_takesE_203 ⟨Nat.zero_le _, Nat.zero_le _⟩) hE (fun H locs hE => ?_)
                refine lv_aload_n hx hb dX8_takesE_206 rfl (lv_at hl 0 rfl) ?_
                refine lv_dup hx hb dX8_takesE_207 rfl ?_
                obtain ⟨x202, ex202, h⟩ := zbdE h
                refine zr_getI S hK hE zcl_X8 (zm_0 w201) 21 (Nat.le_of_ble_eq_true rfl) rfl qf_X8_253 dX8_takesE_208 ex202 ?_
                refine lv_iconst (v := 1) hx hb dX8_takesE_211 (by decide) ?_
                refine lv_isub hx hb dX8_takesE_212 ?_
                obtain ⟨w203, ew203, h⟩ := zbdE h
                refine zr_putI S hK hE zcl_X8 (zm_0 w201) 21 (Nat.le_of_ble_eq_true rfl) rfl rfl rfl qf_X8_253 dX8_takesE_213 ew203 (fun H locs hE => ?_)
                obtain ⟨x204, ex204, h⟩ := zbdE h
                refine lv_iinc (v := x204) (lv' := [(1, .int x204), (0, .ref (ad 0)), (2, .int l2), (3, .int l3)]) hx hb dX8_takesE_216 hl (k := 1) rfl (zinc (k := (-1)) (by decide) ex204) (by decide) rfl (fun ls hl => ?_)
                refine lv_aload_n hx hb dX8_takesE_219 rfl (lv_at hl 1 rfl) ?_
                refine lv_bipush (v := 6) hx hb dX8_takesE_220 (by decide) ?_
                obtain ⟨w205, ew205, h⟩ := zbdE h
                refine zr_v (zr_runV (As := [.int 6]) S hX hE (kX8_settle l D tc lo ad fr zq 6 w203 w205 ew205) zyX8_settle qm_X8_268 zcl_X8 rfl (zm_0 w203) ⟨rfl, rfl⟩ ⟨Nat.le_of_ble_eq_true rfl, Nat.le_of_ble_eq_true rfl⟩ rfl hl.1 rfl (Nat.le_of_ble_eq_true rfl) dX8_takesE_222 ⟨Nat.zero_le _, Nat.zero_le _⟩) hE (fun H locs hE => ?_)
                refine lv_aload_n hx hb dX8_takesE_225 rfl (lv_at hl 1 rfl) ?_
                obtain ⟨x206, w207, ew207, h⟩ := zbd2E h
                refine zr_i (zr_runV (As := []) S hX hE (kX8_notsOpen l D tc lo ad fr zq w205 x206 w207 ew207) zyX8_notsOpen qm_X8_274 zcl_X8 rfl (zm_0 w205) ⟨rfl, rfl⟩ ⟨Nat.le_of_ble_eq_true rfl, Nat.le_of_ble_eq_true rfl⟩ rfl hl.1 rfl (Nat.le_of_ble_eq_true rfl) dX8_takesE_226 ⟨Nat.zero_le _, Nat.zero_le _⟩) hE (fun H locs hE => ?_)
                refine lv_istore_n (lv' := [(2, .int x206), (1, .int x204), (0, .ref (ad 0)), (3, .int l3)]) hx hb dX8_takesE_229 rfl hl (by decide) rfl (fun ls hl => ?_)
                refine lv_aload_n hx hb dX8_takesE_230 rfl (lv_at hl 2 rfl) ?_
                obtain ⟨w208, ew208, h⟩ := zbdE h
                refine zr_v (zr_runV (As := []) S hX hE (kX8_go l D tc lo ad fr zq w207 w208 ew208) zyX8_go qm_X8_250 zcl_X8 rfl (zm_0 w207) ⟨rfl, rfl⟩ ⟨Nat.le_of_ble_eq_true rfl, Nat.le_of_ble_eq_true rfl⟩ rfl hl.1 rfl (Nat.le_of_ble_eq_true rfl) dX8_takesE_231 ⟨Nat.zero_le _, Nat.zero_le _⟩) hE (fun H locs hE => ?_)
                refine lv_goto (tgt := 28) hx hb dX8_takesE_234 (by decide) ?_
                exact ih28 x204 x206 l3 w208 ls _ _ h (lv_sub hl [2, 1, 0, 3] rfl) hE
        · have h := zif' c195 h
          refine lv_aload_n hx hb dX8_takesE_43 rfl (lv_at hl 0 rfl) ?_
          obtain ⟨x209, ex209, h⟩ := zbdE h
          refine zr_getI S hK hE zcl_X8 (zm_0 w) 11 (Nat.le_of_ble_eq_true rfl) rfl qf_X8_235 dX8_takesE_44 ex209 ?_
          refine lv_iconst (v := 3) hx hb dX8_takesE_47 (by decide) ?_
          refine lv_icmp_ne (tgt := 97) hx hb dX8_takesE_48 (by decide) (fun c210 => ?_) (fun c210 => ?_)
          · have h := zif' c210 h
            exact J97 l1 l3 w ls _ _ h (lv_sub hl [0, 1, 3] rfl) hE
          · have h := zif c210 h
            refine lv_aload_n hx hb dX8_takesE_51 rfl (lv_at hl 0 rfl) ?_
            obtain ⟨x211, ex211, h⟩ := zbdE h
            refine zr_getI S hK hE zcl_X8 (zm_0 w) 12 (Nat.le_of_ble_eq_true rfl) rfl qf_X8_241 dX8_takesE_52 ex211 ?_
            refine lv_bipush (v := 33) hx hb dX8_takesE_55 (by decide) ?_
            refine lv_icmp_ne (tgt := 97) hx hb dX8_takesE_57 (by decide) (fun c212 => ?_) (fun c212 => ?_)
            · have h := zif' c212 h
              exact J97 l1 l3 w ls _ _ h (lv_sub hl [0, 1, 3] rfl) hE
            · have h := zif c212 h
              refine lv_iload_n hx hb dX8_takesE_60 rfl (lv_at hl 2 rfl) ?_
              refine lv_bipush (v := 8) hx hb dX8_takesE_61 (by decide) ?_
              refine lv_icmp_ge (tgt := 97) hx hb dX8_takesE_63 (by decide) (fun c213 => ?_) (fun c213 => ?_)
              · have h := zif c213 h
                exact J97 l1 l3 w ls _ _ h (lv_sub hl [0, 1, 3] rfl) hE
              · have h := zif' c213 h
                refine lv_aload_n hx hb dX8_takesE_66 rfl (lv_at hl 0 rfl) ?_
                refine zr_getA S hK hE zcl_X8 (zm_0 w) 20 (Nat.le_of_ble_eq_true rfl) (q := 11) rfl qf_X8_41 dX8_takesE_67 ?_
                refine lv_aload_n hx hb dX8_takesE_70 rfl (lv_at hl 0 rfl) ?_
                obtain ⟨x214, ex214, h⟩ := zbdE h
                refine zr_getI S hK hE zcl_X8 (zm_0 w) 21 (Nat.le_of_ble_eq_true rfl) rfl qf_X8_253 dX8_takesE_71 ex214 ?_
                refine lv_bipush (v := (-10)) hx hb dX8_takesE_74 (by decide) ?_
                obtain ⟨w215, ew215, h⟩ := zbdE h
                refine zr_iast S hK hE (zm_11 w) dX8_takesE_76 ew215 (fun H locs hE => ?_)
                refine lv_aload_n hx hb dX8_takesE_77 rfl (lv_at hl 0 rfl) ?_
                refine lv_dup hx hb dX8_takesE_78 rfl ?_
                obtain ⟨x216, ex216, h⟩ := zbdE h
                refine zr_getI S hK hE zcl_X8 (zm_0 w215) 21 (Nat.le_of_ble_eq_true rfl) rfl qf_X8_253 dX8_takesE_79 ex216 ?_
                refine lv_iconst (v := 1) hx hb dX8_takesE_82 (by decide) ?_
                refine lv_iadd hx hb dX8_takesE_83 ?_
                obtain ⟨w217, ew217, h⟩ := zbdE h
                refine zr_putI S hK hE zcl_X8 (zm_0 w215) 21 (Nat.le_of_ble_eq_true rfl) rfl rfl rfl qf_X8_253 dX8_takesE_84 ew217 (fun H locs hE => ?_)
                obtain ⟨x218, ex218, h⟩ := zbdE h
                refine lv_iinc (v := x218) (lv' := [(2, .int x218), (0, .ref (ad 0)), (1, .int l1), (3, .int l3)]) hx hb dX8_takesE_87 hl (k := 2) rfl (zinc (k := 1) (by decide) ex218) (by decide) rfl (fun ls hl => ?_)
                refine lv_aload_n hx hb dX8_takesE_90 rfl (lv_at hl 1 rfl) ?_
                obtain ⟨w219, ew219, h⟩ := zbdE h
                refine zr_v (zr_runV (As := []) S hX hE (kX8_go l D tc lo ad fr zq w217 w219 ew219) zyX8_go qm_X8_250 zcl_X8 rfl (zm_0 w217) ⟨rfl, rfl⟩ ⟨Nat.le_of_ble_eq_true rfl, Nat.le_of_ble_eq_true rfl⟩ rfl hl.1 rfl (Nat.le_of_ble_eq_true rfl) dX8_takesE_91 ⟨Nat.zero_le _, Nat.zero_le _⟩) hE (fun H locs hE => ?_)
                refine lv_goto (tgt := 172) hx hb dX8_takesE_94 (by decide) ?_
                exact J172 l1 l3 w219 ls _ _ h (lv_sub hl [1, 2, 3] rfl) hE
      refine lv_iload_n hx hb dX8_takesE_28 rfl (lv_at hl 3 rfl) ?_
      refine lv_if_ne (tgt := 39) hx hb dX8_takesE_29 (by decide) (fun c220 => ?_) (fun c220 => ?_)
      · have h := zif' c220 h
        exact J39 l1 l2 l3 w ls _ _ h (lv_sub hl [0, 1, 2, 3] rfl) hE
      · have h := zif c220 h
        refine lv_aload_n hx hb dX8_takesE_32 rfl (lv_at hl 0 rfl) ?_
        obtain ⟨x221, ex221, h⟩ := zbdE h
        refine zr_getI S hK hE zcl_X8 (zm_0 w) 11 (Nat.le_of_ble_eq_true rfl) rfl qf_X8_235 dX8_takesE_33 ex221 ?_
        refine lv_if_eq (tgt := 345) hx hb dX8_takesE_36 (by decide) (fun c222 => ?_) (fun c222 => ?_)
        · have h := zif c222 h
          refine lv_aload_n hx hb dX8_takesE_345 rfl (lv_at hl 0 rfl) ?_
          refine lv_iconst (v := 0) hx hb dX8_takesE_346 (by decide) ?_
          obtain ⟨w223, ew223, h⟩ := zbdE h
          refine zr_v (zr_runV (As := [.int 0]) S hX hE (kX8_settle l D tc lo ad fr zq 0 w w223 ew223) zyX8_settle qm_X8_268 zcl_X8 rfl (zm_0 w) ⟨rfl, rfl⟩ ⟨Nat.le_of_ble_eq_true rfl, Nat.le_of_ble_eq_true rfl⟩ rfl hl.1 rfl (Nat.le_of_ble_eq_true rfl) dX8_takesE_347 ⟨Nat.zero_le _, Nat.zero_le _⟩) hE (fun H locs hE => ?_)
          refine lv_iload_n hx hb dX8_takesE_350 rfl (lv_at hl 1 rfl) ?_
          refine lv_if_ne (tgt := 358) hx hb dX8_takesE_351 (by decide) (fun c224 => ?_) (fun c224 => ?_)
          · have h := zif' c224 h
            refine lv_iconst (v := 0) hx hb dX8_takesE_358 (by decide) ?_
            exact zr_zret S hE hr hlk (by decide) h dX8_takesE_359
          · have h := zif c224 h
            refine lv_iconst (v := 1) hx hb dX8_takesE_354 (by decide) ?_
            refine lv_goto (tgt := 359) hx hb dX8_takesE_355 (by decide) ?_
            exact zr_zret S hE hr hlk (by decide) h dX8_takesE_359
        · have h := zif' c222 h
          exact J39 l1 l2 l3 w ls _ _ h (lv_sub hl [0, 1, 2, 3] rfl) hE
  refine lv_iconst (v := 0) hx hb dX8_takesE_0 (by decide) ?_
  refine lv_istore_n (lv' := [(1, .int 0), (0, .ref (ad 0))]) hx hb dX8_takesE_1 rfl hl (by decide) rfl (fun ls hl => ?_)
  refine lv_iconst (v := 0) hx hb dX8_takesE_2 (by decide) ?_
  refine lv_istore_n (lv' := [(2, .int 0), (1, .int 0), (0, .ref (ad 0))]) hx hb dX8_takesE_3 rfl hl (by decide) rfl (fun ls hl => ?_)
  refine lv_iconst (v := 1) hx hb dX8_takesE_4 (by decide) ?_
  refine lv_istore_n (lv' := [(3, .int 1), (2, .int 0), (1, .int 0), (0, .ref (ad 0))]) hx hb dX8_takesE_5 rfl hl (by decide) rfl (fun ls hl => ?_)
  refine lv_aload_n hx hb dX8_takesE_6 rfl (lv_at hl 3 rfl) ?_
  refine lv_iconst (v := 0) hx hb dX8_takesE_7 (by decide) ?_
  obtain ⟨w10001, ew10001, h⟩ := zbdE h
  refine zr_putI S hK hE zcl_X8 (zm_0 w) 18 (Nat.le_of_ble_eq_true rfl) rfl rfl rfl qf_X8_259 dX8_takesE_8 ew10001 (fun H locs hE => ?_)
  refine lv_aload_n hx hb dX8_takesE_11 rfl (lv_at hl 3 rfl) ?_
  refine lv_iconst (v := 0) hx hb dX8_takesE_12 (by decide) ?_
  obtain ⟨w10002, ew10002, h⟩ := zbdE h
  refine zr_putI S hK hE zcl_X8 (zm_0 w10001) 19 (Nat.le_of_ble_eq_true rfl) rfl rfl rfl qf_X8_265 dX8_takesE_13 ew10002 (fun H locs hE => ?_)
  refine lv_aload_n hx hb dX8_takesE_16 rfl (lv_at hl 3 rfl) ?_
  refine lv_iconst (v := 0) hx hb dX8_takesE_17 (by decide) ?_
  obtain ⟨w10003, ew10003, h⟩ := zbdE h
  refine zr_putI S hK hE zcl_X8 (zm_0 w10002) 21 (Nat.le_of_ble_eq_true rfl) rfl rfl rfl qf_X8_253 dX8_takesE_18 ew10003 (fun H locs hE => ?_)
  refine lv_aload_n hx hb dX8_takesE_21 rfl (lv_at hl 3 rfl) ?_
  refine zr_getA S hK hE zcl_X8 (zm_0 w10003) 22 (Nat.le_of_ble_eq_true rfl) (q := 12) rfl qf_X8_44 dX8_takesE_22 ?_
  refine lv_iconst (v := 0) hx hb dX8_takesE_25 (by decide) ?_
  refine lv_iconst (v := 0) hx hb dX8_takesE_26 (by decide) ?_
  obtain ⟨w10004, ew10004, h⟩ := zbdE h
  refine zr_zast S hK hE (zm_12 w10003) dX8_takesE_27 ew10004 (fun H locs hE => ?_)
  exact L28 zfuel 0 0 1 w10004 ls _ _ h (lv_sub hl [3, 2, 1, 0] rfl) hE
set_option maxHeartbeats 4000000 in
set_option maxRecDepth 100000 in
theorem kX8_takesKey (l : Launch) (D : va_G) (tc : Nat → ClassId) (lo : Nat) (ad : Nat → Nat) (fr : va_W) (zq : zz_Q) (w : zz_W) (r : Int32) (w_ : zz_W) (h : fX8_takesKey w = some (r, w_)) : zMi l yX8_takesKey cX8_takesKey 5 (some .boolean) { frames := 2, cells := 0, slots := 0, locals := 42 } D tc lo ad zshM znnM fr zq [.ref (ad 0)] w r w_ := by
  refine zr_entry (by decide) (Nat.le_of_ble_eq_true rfl) fun p e s m args below meth c ls S hX hr hlk hE hl => ?_
  have S : CallFix p m c cX8_takesKey 5 s args (Cond.code yX8_takesKey cX8_takesKey 5 (some .boolean) :: zw_tb) RX8 := S
  have hx := S.1
  have hb := S.2.1
  have hK := hX.2.1
  have hl : lv_has ls 5 [(0, .ref (ad 0))] := hl
  unfold fX8_takesKey at h
  have L12 : ∀ (n : Nat) (l1 : Int32) (w : zz_W) (ls : Array Slot) (H : Heap) (locs : List Loc), fX8_takesKey_12 n l1 w = some (r, w_) → lv_has ls 5 [(0, .ref (ad 0)), (1, .int l1)] → zE D tc lo ad zshM znnM fr w s.heap H locs → W p l e { frames := 2, cells := 0, slots := 0, locals := 42 } s m args below meth c H locs 0 0 (zZi D tc lo ad zshM znnM fr below args s r w_) (F0 m 12 ls []) := by
    intro n12
    induction n12 with
    | zero => intro l1 w ls H locs h hl hE; rw [fX8_takesKey_12] at h; cases h
    | succ n12 ih12 =>
      intro l1 w ls H locs h hl hE
      rw [fX8_takesKey_12] at h
      have J106 : ∀ (l1 : Int32) (l3 : Int32) (w : zz_W) (ls : Array Slot) (H : Heap) (locs : List Loc), fX8_takesKey_106 (fX8_takesKey_12 n12) l1 l3 w = some (r, w_) → lv_has ls 5 [(0, .ref (ad 0)), (1, .int l1), (3, .int l3)] → zE D tc lo ad zshM znnM fr w s.heap H locs → W p l e { frames := 2, cells := 0, slots := 0, locals := 42 } s m args below meth c H locs 0 0 (zZi D tc lo ad zshM znnM fr below args s r w_) (F0 m 106 ls []) := by
        intro l1 l3 w ls H locs h hl hE
        unfold fX8_takesKey_106 at h
        refine lv_iload_n hx hb dX8_takesKey_106 rfl (lv_at hl 2 rfl) ?_
        refine lv_if_eq (tgt := 121) hx hb dX8_takesKey_107 (by decide) (fun c45 => ?_) (fun c45 => ?_)
        · have h := zif c45 h
          obtain ⟨x46, ex46, h⟩ := zbdE h
          refine lv_iinc (v := x46) (lv' := [(1, .int x46), (0, .ref (ad 0)), (3, .int l3)]) hx hb dX8_takesKey_121 hl (k := 1) rfl (zinc (k := 1) (by decide) ex46) (by decide) rfl (fun ls hl => ?_)
          refine lv_goto (tgt := 12) hx hb dX8_takesKey_124 (by decide) ?_
          exact ih12 x46 w ls _ _ h (lv_sub hl [1, 0] rfl) hE
        · have h := zif' c45 h
          refine lv_aload_n hx hb dX8_takesKey_110 rfl (lv_at hl 0 rfl) ?_
          refine lv_iload_n hx hb dX8_takesKey_111 rfl (lv_at hl 1 rfl) ?_
          obtain ⟨w47, ew47, h⟩ := zbdE h
          refine zr_putI S hK hE zcl_X8 (zm_0 w) 14 (Nat.le_of_ble_eq_true rfl) rfl rfl rfl qf_X8_247 dX8_takesKey_112 ew47 (fun H locs hE => ?_)
          refine lv_aload_n hx hb dX8_takesKey_115 rfl (lv_at hl 0 rfl) ?_
          obtain ⟨w48, ew48, h⟩ := zbdE h
          refine zr_v (zr_runV (As := []) S hX hE (kX8_go l D tc lo ad fr zq w47 w48 ew48) zyX8_go qm_X8_250 zcl_X8 rfl (zm_0 w47) ⟨rfl, rfl⟩ ⟨Nat.le_of_ble_eq_true rfl, Nat.le_of_ble_eq_true rfl⟩ rfl hl.1 rfl (Nat.le_of_ble_eq_true rfl) dX8_takesKey_116 ⟨Nat.zero_le _, Nat.zero_le _⟩) hE (fun H locs hE => ?_)
          refine lv_iconst (v := 1) hx hb dX8_takesKey_119 (by decide) ?_
          exact zr_zret S hE hr hlk (by decide) h dX8_takesKey_120
      have L55 : ∀ (n : Nat) (l1 : Int32) (l2 : Int32) (l3 : Int32) (l4 : Int32) (w : zz_W) (ls : Array Slot) (H : Heap) (locs : List Loc), fX8_takesKey_55 (fX8_takesKey_12 n12) n l1 l2 l3 l4 w = some (r, w_) → lv_has ls 5 [(0, .ref (ad 0)), (1, .int l1), (2, .int l2), (3, .int l3), (4, .int l4)] → zE D tc lo ad zshM znnM fr w s.heap H locs → W p l e { frames := 2, cells := 0, slots := 0, locals := 42 } s m args below meth c H locs 0 0 (zZi D tc lo ad zshM znnM fr below args s r w_) (F0 m 55 ls []) := by
        intro n55
        induction n55 with
        | zero => intro l1 l2 l3 l4 w ls H locs h hl hE; rw [fX8_takesKey_55] at h; cases h
        | succ n55 ih55 =>
          intro l1 l2 l3 l4 w ls H locs h hl hE
          rw [fX8_takesKey_55] at h
          refine lv_iload hx hb dX8_takesKey_55 (lv_at hl 4 rfl) ?_
          refine lv_iload_n hx hb dX8_takesKey_57 rfl (lv_at hl 2 rfl) ?_
          refine lv_icmp_ge (tgt := 106) hx hb dX8_takesKey_58 (by decide) (fun c49 => ?_) (fun c49 => ?_)
          · have h := zif c49 h
            exact J106 l1 l3 w ls _ _ h (lv_sub hl [0, 1, 3] rfl) hE
          · have h := zif' c49 h
            refine lv_iload_n hx hb dX8_takesKey_61 rfl (lv_at hl 3 rfl) ?_
            refine lv_if_eq (tgt := 106) hx hb dX8_takesKey_62 (by decide) (fun c50 => ?_) (fun c50 => ?_)
            · have h := zif c50 h
              exact J106 l1 l3 w ls _ _ h (lv_sub hl [0, 1, 3] rfl) hE
            · have h := zif' c50 h
              refine lv_aload_n hx hb dX8_takesKey_65 rfl (lv_at hl 0 rfl) ?_
              refine zr_getA S hK hE zcl_X8 (zm_0 w) 7 (Nat.le_of_ble_eq_true rfl) (q := 7) rfl qf_X8_28 dX8_takesKey_66 ?_
              refine lv_aload_n hx hb dX8_takesKey_69 rfl (lv_at hl 0 rfl) ?_
              obtain ⟨x51, ex51, h⟩ := zbdE h
              refine zr_getI S hK hE zcl_X8 (zm_0 w) 10 (Nat.le_of_ble_eq_true rfl) rfl qf_X8_229 dX8_takesKey_70 ex51 ?_
              refine lv_iload hx hb dX8_takesKey_73 (lv_at hl 4 rfl) ?_
              refine lv_iadd hx hb dX8_takesKey_75 ?_
              obtain ⟨x52, ex52, h⟩ := zbdE h
              refine zr_iald S hK hE (zm_7 w) dX8_takesKey_76 ex52 ?_
              refine lv_aload_n hx hb dX8_takesKey_77 rfl (lv_at hl 0 rfl) ?_
              refine zr_getA S hK hE zcl_X8 (zm_0 w) 15 (Nat.le_of_ble_eq_true rfl) (q := 8) rfl qf_X8_31 dX8_takesKey_78 ?_
              refine lv_aload_n hx hb dX8_takesKey_81 rfl (lv_at hl 0 rfl) ?_
              refine zr_getA S hK hE zcl_X8 (zm_0 w) 16 (Nat.le_of_ble_eq_true rfl) (q := 9) rfl qf_X8_35 dX8_takesKey_82 ?_
              refine lv_iload_n hx hb dX8_takesKey_85 rfl (lv_at hl 1 rfl) ?_
              obtain ⟨x53, ex53, h⟩ := zbdE h
              refine zr_iald S hK hE (zm_9 w) dX8_takesKey_86 ex53 ?_
              refine lv_iload hx hb dX8_takesKey_87 (lv_at hl 4 rfl) ?_
              refine lv_iadd hx hb dX8_takesKey_89 ?_
              obtain ⟨x54, ex54, h⟩ := zbdE h
              refine zr_cald S hK hE (zm_8 w) dX8_takesKey_90 ex54 ?_
              refine lv_icmp_ne (tgt := 98) hx hb dX8_takesKey_91 (by decide) (fun c55 => ?_) (fun c55 => ?_)
              · have h := zif' c55 h
                refine lv_iconst (v := 0) hx hb dX8_takesKey_98 (by decide) ?_
                refine lv_istore_n (lv' := [(3, .int 0), (0, .ref (ad 0)), (1, .int l1), (2, .int l2), (4, .int l4)]) hx hb dX8_takesKey_99 rfl hl (by decide) rfl (fun ls hl => ?_)
                obtain ⟨x56, ex56, h⟩ := zbdE h
                refine lv_iinc (v := x56) (lv' := [(4, .int x56), (3, .int 0), (0, .ref (ad 0)), (1, .int l1), (2, .int l2)]) hx hb dX8_takesKey_100 hl (k := 4) rfl (zinc (k := 1) (by decide) ex56) (by decide) rfl (fun ls hl => ?_)
                refine lv_goto (tgt := 55) hx hb dX8_takesKey_103 (by decide) ?_
                exact ih55 l1 l2 0 x56 w ls _ _ h (lv_sub hl [2, 3, 4, 1, 0] rfl) hE
              · have h := zif c55 h
                refine lv_iconst (v := 1) hx hb dX8_takesKey_94 (by decide) ?_
                refine lv_goto (tgt := 99) hx hb dX8_takesKey_95 (by decide) ?_
                refine lv_istore_n (lv' := [(3, .int 1), (0, .ref (ad 0)), (1, .int l1), (2, .int l2), (4, .int l4)]) hx hb dX8_takesKey_99 rfl hl (by decide) rfl (fun ls hl => ?_)
                obtain ⟨x57, ex57, h⟩ := zbdE h
                refine lv_iinc (v := x57) (lv' := [(4, .int x57), (3, .int 1), (0, .ref (ad 0)), (1, .int l1), (2, .int l2)]) hx hb dX8_takesKey_100 hl (k := 4) rfl (zinc (k := 1) (by decide) ex57) (by decide) rfl (fun ls hl => ?_)
                refine lv_goto (tgt := 55) hx hb dX8_takesKey_103 (by decide) ?_
                exact ih55 l1 l2 1 x57 w ls _ _ h (lv_sub hl [2, 3, 4, 1, 0] rfl) hE
      refine lv_iload_n hx hb dX8_takesKey_12 rfl (lv_at hl 1 rfl) ?_
      refine lv_iconst (v := 3) hx hb dX8_takesKey_13 (by decide) ?_
      refine lv_icmp_ge (tgt := 127) hx hb dX8_takesKey_14 (by decide) (fun c58 => ?_) (fun c58 => ?_)
      · have h := zif c58 h
        refine lv_iconst (v := 0) hx hb dX8_takesKey_127 (by decide) ?_
        exact zr_zret S hE hr hlk (by decide) h dX8_takesKey_128
      · have h := zif' c58 h
        refine lv_aload_n hx hb dX8_takesKey_17 rfl (lv_at hl 0 rfl) ?_
        refine zr_getA S hK hE zcl_X8 (zm_0 w) 16 (Nat.le_of_ble_eq_true rfl) (q := 9) rfl qf_X8_35 dX8_takesKey_18 ?_
        refine lv_iload_n hx hb dX8_takesKey_21 rfl (lv_at hl 1 rfl) ?_
        refine lv_iconst (v := 1) hx hb dX8_takesKey_22 (by decide) ?_
        refine lv_iadd hx hb dX8_takesKey_23 ?_
        obtain ⟨x59, ex59, h⟩ := zbdE h
        refine zr_iald S hK hE (zm_9 w) dX8_takesKey_24 ex59 ?_
        refine lv_aload_n hx hb dX8_takesKey_25 rfl (lv_at hl 0 rfl) ?_
        refine zr_getA S hK hE zcl_X8 (zm_0 w) 16 (Nat.le_of_ble_eq_true rfl) (q := 9) rfl qf_X8_35 dX8_takesKey_26 ?_
        refine lv_iload_n hx hb dX8_takesKey_29 rfl (lv_at hl 1 rfl) ?_
        obtain ⟨x60, ex60, h⟩ := zbdE h
        refine zr_iald S hK hE (zm_9 w) dX8_takesKey_30 ex60 ?_
        refine lv_isub hx hb dX8_takesKey_31 ?_
        obtain ⟨x61, ex61, h⟩ := zbdE h
        refine zr_topi ex61 ?_
        refine lv_istore_n (lv' := [(2, .int x61), (0, .ref (ad 0)), (1, .int l1)]) hx hb dX8_takesKey_32 rfl hl (by decide) rfl (fun ls hl => ?_)
        refine lv_iload_n hx hb dX8_takesKey_33 rfl (lv_at hl 0 rfl) ?_
        refine lv_aload_n hx hb dX8_takesKey_34 rfl (lv_at hl 1 rfl) ?_
        obtain ⟨x62, ex62, h⟩ := zbdE h
        refine zr_getI S hK hE zcl_X8 (zm_0 w) 9 (Nat.le_of_ble_eq_true rfl) rfl qf_X8_226 dX8_takesKey_35 ex62 ?_
        refine lv_aload_n hx hb dX8_takesKey_38 rfl (lv_at hl 1 rfl) ?_
        obtain ⟨x63, ex63, h⟩ := zbdE h
        refine zr_getI S hK hE zcl_X8 (zm_0 w) 10 (Nat.le_of_ble_eq_true rfl) rfl qf_X8_229 dX8_takesKey_39 ex63 ?_
        refine lv_isub hx hb dX8_takesKey_42 ?_
        refine lv_icmp_ne (tgt := 50) hx hb dX8_takesKey_43 (by decide) (fun c64 => ?_) (fun c64 => ?_)
        · have h := zif' c64 h
          refine lv_iconst (v := 0) hx hb dX8_takesKey_50 (by decide) ?_
          refine lv_istore_n (lv' := [(3, .int 0), (2, .int x61), (0, .ref (ad 0)), (1, .int l1)]) hx hb dX8_takesKey_51 rfl hl (by decide) rfl (fun ls hl => ?_)
          refine lv_iconst (v := 0) hx hb dX8_takesKey_52 (by decide) ?_
          refine lv_istore (lv' := [(4, .int 0), (3, .int 0), (2, .int x61), (0, .ref (ad 0)), (1, .int l1)]) hx hb dX8_takesKey_53 hl (by decide) rfl (fun ls hl => ?_)
          exact L55 zfuel l1 x61 0 0 w ls _ _ h (lv_sub hl [3, 4, 2, 1, 0] rfl) hE
        · have h := zif c64 h
          refine lv_iconst (v := 1) hx hb dX8_takesKey_46 (by decide) ?_
          refine lv_goto (tgt := 51) hx hb dX8_takesKey_47 (by decide) ?_
          refine lv_istore_n (lv' := [(3, .int 1), (2, .int x61), (0, .ref (ad 0)), (1, .int l1)]) hx hb dX8_takesKey_51 rfl hl (by decide) rfl (fun ls hl => ?_)
          refine lv_iconst (v := 0) hx hb dX8_takesKey_52 (by decide) ?_
          refine lv_istore (lv' := [(4, .int 0), (3, .int 1), (2, .int x61), (0, .ref (ad 0)), (1, .int l1)]) hx hb dX8_takesKey_53 hl (by decide) rfl (fun ls hl => ?_)
          exact L55 zfuel l1 x61 1 0 w ls _ _ h (lv_sub hl [3, 4, 2, 1, 0] rfl) hE
  refine lv_aload_n hx hb dX8_takesKey_0 rfl (lv_at hl 0 rfl) ?_
  obtain ⟨x10001, ex10001, h⟩ := zbdE h
  refine zr_getI S hK hE zcl_X8 (zm_0 w) 11 (Nat.le_of_ble_eq_true rfl) rfl qf_X8_235 dX8_takesKey_1 ex10001 ?_
  refine lv_iconst (v := 1) hx hb dX8_takesKey_4 (by decide) ?_
  refine lv_icmp_eq (tgt := 10) hx hb dX8_takesKey_5 (by decide) (fun c10002 => ?_) (fun c10002 => ?_)
  · have h := zif c10002 h
    refine lv_iconst (v := 0) hx hb dX8_takesKey_10 (by decide) ?_
    refine lv_istore_n (lv' := [(1, .int 0), (0, .ref (ad 0))]) hx hb dX8_takesKey_11 rfl hl (by decide) rfl (fun ls hl => ?_)
    exact L12 zfuel 0 w ls _ _ h (lv_sub hl [1, 0] rfl) hE
  · have h := zif' c10002 h
    refine lv_iconst (v := 0) hx hb dX8_takesKey_8 (by decide) ?_
    exact zr_zret S hE hr hlk (by decide) h dX8_takesKey_9
set_option maxHeartbeats 4000000 in
set_option maxRecDepth 100000 in
theorem kX8_tell (l : Launch) (D : va_G) (tc : Nat → ClassId) (lo : Nat) (ad : Nat → Nat) (fr : va_W) (zq : zz_Q) (a1 : Int32) (w : zz_W) (r : Int32) (w_ : zz_W) (h : fX8_tell a1 w = some (r, w_)) : zMi l yX8_tell cX8_tell 2 (some .int) { frames := 0, cells := 0, slots := 0, locals := 0 } D tc lo ad zshM znnM fr zq [.ref (ad 0), .int a1] w r w_ := by
  refine zr_entry (by decide) (Nat.le_of_ble_eq_true rfl) fun p e s m args below meth c ls S hX hr hlk hE hl => ?_
  have S : CallFix p m c cX8_tell 2 s args (Cond.code yX8_tell cX8_tell 2 (some .int) :: zw_tb) RX8 := S
  have hx := S.1
  have hb := S.2.1
  have hK := hX.2.1
  have hl : lv_has ls 2 [(0, .ref (ad 0)), (1, .int a1)] := hl
  unfold fX8_tell at h
  refine lv_aload_n hx hb dX8_tell_0 rfl (lv_at hl 0 rfl) ?_
  obtain ⟨x10001, ex10001, h⟩ := zbdE h
  refine zr_getI S hK hE zcl_X8 (zm_0 w) 34 (Nat.le_of_ble_eq_true rfl) rfl qf_X8_295 dX8_tell_1 ex10001 ?_
  refine lv_bipush (v := 60) hx hb dX8_tell_4 (by decide) ?_
  refine lv_icmp_ne (tgt := 12) hx hb dX8_tell_6 (by decide) (fun c10002 => ?_) (fun c10002 => ?_)
  · have h := zif' c10002 h
    refine lv_aload_n hx hb dX8_tell_12 rfl (lv_at hl 0 rfl) ?_
    refine zr_getA S hK hE zcl_X8 (zm_0 w) 33 (Nat.le_of_ble_eq_true rfl) (q := 23) rfl qf_X8_78 dX8_tell_13 ?_
    refine lv_aload_n hx hb dX8_tell_16 rfl (lv_at hl 0 rfl) ?_
    obtain ⟨x10003, ex10003, h⟩ := zbdE h
    refine zr_getI S hK hE zcl_X8 (zm_0 w) 34 (Nat.le_of_ble_eq_true rfl) rfl qf_X8_295 dX8_tell_17 ex10003 ?_
    refine lv_iload_n hx hb dX8_tell_20 rfl (lv_at hl 1 rfl) ?_
    obtain ⟨w10004, ew10004, h⟩ := zbdE h
    refine zr_iast S hK hE (zm_23 w) dX8_tell_21 ew10004 (fun H locs hE => ?_)
    refine lv_aload_n hx hb dX8_tell_22 rfl (lv_at hl 0 rfl) ?_
    refine lv_dup hx hb dX8_tell_23 rfl ?_
    obtain ⟨x10005, ex10005, h⟩ := zbdE h
    refine zr_getI S hK hE zcl_X8 (zm_0 w10004) 34 (Nat.le_of_ble_eq_true rfl) rfl qf_X8_295 dX8_tell_24 ex10005 ?_
    refine lv_iconst (v := 1) hx hb dX8_tell_27 (by decide) ?_
    refine lv_iadd hx hb dX8_tell_28 ?_
    obtain ⟨w10006, ew10006, h⟩ := zbdE h
    refine zr_putI S hK hE zcl_X8 (zm_0 w10004) 34 (Nat.le_of_ble_eq_true rfl) rfl rfl rfl qf_X8_295 dX8_tell_29 ew10006 (fun H locs hE => ?_)
    refine lv_aload_n hx hb dX8_tell_32 rfl (lv_at hl 0 rfl) ?_
    obtain ⟨x10007, ex10007, h⟩ := zbdE h
    refine zr_getI S hK hE zcl_X8 (zm_0 w10006) 34 (Nat.le_of_ble_eq_true rfl) rfl qf_X8_295 dX8_tell_33 ex10007 ?_
    exact zr_iret S hE hr hlk h dX8_tell_36
  · have h := zif c10002 h
    refine zr_ldc S qc_X8_98 dX8_tell_9 ?_
    exact zr_iret S hE hr hlk h dX8_tell_11
set_option maxHeartbeats 4000000 in
set_option maxRecDepth 100000 in
theorem kX8_tells (l : Launch) (D : va_G) (tc : Nat → ClassId) (lo : Nat) (ad : Nat → Nat) (fr : va_W) (zq : zz_Q) (a1 : Int32) (a2 : Int32) (a3 : Int32) (w : zz_W) (r : Int32) (w_ : zz_W) (h : fX8_tells a1 a2 a3 w = some (r, w_)) : zMi l yX8_tells cX8_tells 4 (some .int) { frames := 3, cells := 0, slots := 0, locals := 73 } D tc lo ad zshM znnM fr zq [.ref (ad 0), .int a1, .int a2, .int a3] w r w_ := by
  refine zr_entry (by decide) (Nat.le_of_ble_eq_true rfl) fun p e s m args below meth c ls S hX hr hlk hE hl => ?_
  have S : CallFix p m c cX8_tells 4 s args (Cond.code yX8_tells cX8_tells 4 (some .int) :: zw_tb) RX8 := S
  have hx := S.1
  have hb := S.2.1
  have hK := hX.2.1
  have hl : lv_has ls 4 [(0, .ref (ad 0)), (1, .int a1), (2, .int a2), (3, .int a3)] := hl
  unfold fX8_tells at h
  refine lv_aload_n hx hb dX8_tells_0 rfl (lv_at hl 0 rfl) ?_
  refine lv_iload_n hx hb dX8_tells_1 rfl (lv_at hl 1 rfl) ?_
  obtain ⟨x10001, w10002, ew10002, h⟩ := zbd2E h
  refine zr_i (zr_runV (As := [.int a1]) S hX hE (kX8_isRun l D tc lo ad fr zq a1 w x10001 w10002 ew10002) zyX8_isRun qm_X8_121 zcl_X8 rfl (zm_0 w) ⟨rfl, rfl⟩ ⟨Nat.le_of_ble_eq_true rfl, Nat.le_of_ble_eq_true rfl⟩ rfl hl.1 rfl (Nat.le_of_ble_eq_true rfl) dX8_tells_2 ⟨Nat.zero_le _, Nat.zero_le _⟩) hE (fun H locs hE => ?_)
  refine lv_if_eq (tgt := 16) hx hb dX8_tells_5 (by decide) (fun c10003 => ?_) (fun c10003 => ?_)
  · have h := zif c10003 h
    refine zr_ldc S qc_X8_97 dX8_tells_16 ?_
    exact zr_iret S hE hr hlk h dX8_tells_18
  · have h := zif' c10003 h
    refine lv_iload_n hx hb dX8_tells_8 rfl (lv_at hl 2 rfl) ?_
    refine lv_iload_n hx hb dX8_tells_9 rfl (lv_at hl 3 rfl) ?_
    obtain ⟨x10004, w10005, ew10005, h⟩ := zbd2E h
    refine zr_i (zr_runS (As := [.int a2, .int a3]) S hX hE (kX8_isTest l D tc lo ad fr zq a2 a3 w10002 x10004 w10005 ew10005) zyX8_isTest qm_X8_140 ⟨rfl, rfl⟩ ⟨Nat.le_of_ble_eq_true rfl, Nat.le_of_ble_eq_true rfl⟩ rfl hl.1 rfl (Nat.le_of_ble_eq_true rfl) dX8_tells_10 ⟨Nat.zero_le _, Nat.zero_le _⟩) hE (fun H locs hE => ?_)
    refine lv_if_ne (tgt := 19) hx hb dX8_tells_13 (by decide) (fun c10006 => ?_) (fun c10006 => ?_)
    · have h := zif' c10006 h
      refine lv_aload_n hx hb dX8_tells_19 rfl (lv_at hl 0 rfl) ?_
      refine lv_iload_n hx hb dX8_tells_20 rfl (lv_at hl 1 rfl) ?_
      refine lv_iload_n hx hb dX8_tells_21 rfl (lv_at hl 2 rfl) ?_
      refine lv_iload_n hx hb dX8_tells_22 rfl (lv_at hl 3 rfl) ?_
      obtain ⟨x10007, w10008, ew10008, h⟩ := zbd2E h
      refine zr_i (zr_runV (As := [.int a1, .int a2, .int a3]) S hX hE (kX8_doesTell l D tc lo ad fr zq a1 a2 a3 w10005 x10007 w10008 ew10008) zyX8_doesTell qm_X8_143 zcl_X8 rfl (zm_0 w10005) ⟨rfl, rfl⟩ ⟨Nat.le_of_ble_eq_true rfl, Nat.le_of_ble_eq_true rfl⟩ rfl hl.1 rfl (Nat.le_of_ble_eq_true rfl) dX8_tells_23 ⟨Nat.zero_le _, Nat.zero_le _⟩) hE (fun H locs hE => ?_)
      refine lv_if_eq (tgt := 33) hx hb dX8_tells_26 (by decide) (fun c10009 => ?_) (fun c10009 => ?_)
      · have h := zif c10009 h
        refine lv_iconst (v := 0) hx hb dX8_tells_33 (by decide) ?_
        exact zr_iret S hE hr hlk h dX8_tells_34
      · have h := zif' c10009 h
        refine lv_iconst (v := 1) hx hb dX8_tells_29 (by decide) ?_
        refine lv_goto (tgt := 34) hx hb dX8_tells_30 (by decide) ?_
        exact zr_iret S hE hr hlk h dX8_tells_34
    · have h := zif c10006 h
      refine zr_ldc S qc_X8_97 dX8_tells_16 ?_
      exact zr_iret S hE hr hlk h dX8_tells_18
set_option maxHeartbeats 4000000 in
set_option maxRecDepth 100000 in
theorem kX8_text (l : Launch) (D : va_G) (tc : Nat → ClassId) (lo : Nat) (ad : Nat → Nat) (fr : va_W) (zq : zz_Q) (w : zz_W) (r : Int32) (w_ : zz_W) (h : fX8_text w = some (r, w_)) : zMi l yX8_text cX8_text 4 (some .int) { frames := 4, cells := 0, slots := 0, locals := 87 } D tc lo ad zshM znnM fr zq [.ref (ad 0)] w r w_ := by
  refine zr_entry (by decide) (Nat.le_of_ble_eq_true rfl) fun p e s m args below meth c ls S hX hr hlk hE hl => ?_
  have S : CallFix p m c cX8_text 4 s args (Cond.code yX8_text cX8_text 4 (some .int) :: zw_tb) RX8 := S
  have hx := S.1
  have hb := S.2.1
  have hK := hX.2.1
  have hl : lv_has ls 4 [(0, .ref (ad 0))] := hl
  unfold fX8_text at h
  have L117 : ∀ (n : Nat) (l2 : Int32) (l3 : Int32) (w : zz_W) (ls : Array Slot) (H : Heap) (locs : List Loc), fX8_text_117 n l2 l3 w = some (r, w_) → lv_has ls 4 [(0, .ref (ad 0)), (2, .int l2), (3, .int l3)] → zE D tc lo ad zshM znnM fr w s.heap H locs → W p l e { frames := 4, cells := 0, slots := 0, locals := 87 } s m args below meth c H locs 0 0 (zZi D tc lo ad zshM znnM fr below args s r w_) (F0 m 117 ls []) := by
    intro n117
    induction n117 with
    | zero => intro l2 l3 w ls H locs h hl hE; rw [fX8_text_117] at h; cases h
    | succ n117 ih117 =>
      intro l2 l3 w ls H locs h hl hE
      rw [fX8_text_117] at h
      refine lv_iload_n hx hb dX8_text_117 rfl (lv_at hl 2 rfl) ?_
      refine lv_aload_n hx hb dX8_text_118 rfl (lv_at hl 0 rfl) ?_
      obtain ⟨x55, ex55, h⟩ := zbdE h
      refine zr_getI S hK hE zcl_X8 (zm_0 w) 18 (Nat.le_of_ble_eq_true rfl) rfl qf_X8_259 dX8_text_119 ex55 ?_
      refine lv_icmp_ge (tgt := 151) hx hb dX8_text_122 (by decide) (fun c56 => ?_) (fun c56 => ?_)
      · have h := zif c56 h
        refine lv_aload_n hx hb dX8_text_151 rfl (lv_at hl 0 rfl) ?_
        refine zr_getA S hK hE zcl_X8 (zm_0 w) 0 (Nat.le_of_ble_eq_true rfl) (q := 1) rfl qf_X8_9 dX8_text_152 ?_
        refine lv_bipush (v := 13) hx hb dX8_text_155 (by decide) ?_
        refine lv_dup2_11 hx hb dX8_text_157 rfl rfl ?_
        obtain ⟨x57, ex57, h⟩ := zbdE h
        refine zr_iald S hK hE (zm_1 w) dX8_text_158 ex57 ?_
        refine lv_iconst (v := 1) hx hb dX8_text_159 (by decide) ?_
        refine lv_iadd hx hb dX8_text_160 ?_
        obtain ⟨w58, ew58, h⟩ := zbdE h
        refine zr_iast S hK hE (zm_1 w) dX8_text_161 ew58 (fun H locs hE => ?_)
        refine lv_iload_n hx hb dX8_text_162 rfl (lv_at hl 1 rfl) ?_
        exact zr_iret S hE hr hlk h dX8_text_163
      · have h := zif' c56 h
        refine lv_aload_n hx hb dX8_text_125 rfl (lv_at hl 0 rfl) ?_
        refine zr_getA S hK hE zcl_X8 (zm_0 w) 0 (Nat.le_of_ble_eq_true rfl) (q := 1) rfl qf_X8_9 dX8_text_126 ?_
        refine lv_bipush (v := 92) hx hb dX8_text_129 (by decide) ?_
        refine lv_bipush (v := 96) hx hb dX8_text_131 (by decide) ?_
        refine lv_iload_n hx hb dX8_text_133 rfl (lv_at hl 1 rfl) ?_
        refine lv_imul hx hb dX8_text_134 ?_
        refine lv_iadd hx hb dX8_text_135 ?_
        refine lv_iload_n hx hb dX8_text_136 rfl (lv_at hl 2 rfl) ?_
        refine lv_iadd hx hb dX8_text_137 ?_
        refine lv_aload_n hx hb dX8_text_138 rfl (lv_at hl 0 rfl) ?_
        refine zr_getA S hK hE zcl_X8 (zm_0 w) 17 (Nat.le_of_ble_eq_true rfl) (q := 10) rfl qf_X8_38 dX8_text_139 ?_
        refine lv_iload_n hx hb dX8_text_142 rfl (lv_at hl 2 rfl) ?_
        obtain ⟨x59, ex59, h⟩ := zbdE h
        refine zr_iald S hK hE (zm_10 w) dX8_text_143 ex59 ?_
        obtain ⟨w60, ew60, h⟩ := zbdE h
        refine zr_iast S hK hE (zm_1 w) dX8_text_144 ew60 (fun H locs hE => ?_)
        obtain ⟨x61, ex61, h⟩ := zbdE h
        refine lv_iinc (v := x61) (lv' := [(3, .int x61), (0, .ref (ad 0)), (2, .int l2)]) hx hb dX8_text_145 hl (k := 2) rfl (zinc (k := 1) (by decide) ex61) (by decide) rfl (fun ls hl => ?_)
        refine lv_goto (tgt := 117) hx hb dX8_text_148 (by decide) ?_
        exact ih117 l2 x61 w60 ls _ _ h (lv_sub hl [1, 2, 0] rfl) hE
  have J33 : ∀ (s0 : Int32) (w : zz_W) (ls : Array Slot) (H : Heap) (locs : List Loc), fX8_text_33 s0 w = some (r, w_) → lv_has ls 4 [(0, .ref (ad 0))] → zE D tc lo ad zshM znnM fr w s.heap H locs → W p l e { frames := 4, cells := 0, slots := 0, locals := 87 } s m args below meth c H locs 0 0 (zZi D tc lo ad zshM znnM fr below args s r w_) (F0 m 33 ls [.int s0]) := by
    intro s0 w ls H locs h hl hE
    unfold fX8_text_33 at h
    refine lv_istore_n (lv' := [(1, .int s0), (0, .ref (ad 0))]) hx hb dX8_text_33 rfl hl (by decide) rfl (fun ls hl => ?_)
    refine lv_aload_n hx hb dX8_text_34 rfl (lv_at hl 1 rfl) ?_
    refine lv_iconst (v := 0) hx hb dX8_text_35 (by decide) ?_
    obtain ⟨w62, ew62, h⟩ := zbdE h
    refine zr_putI S hK hE zcl_X8 (zm_0 w) 8 (Nat.le_of_ble_eq_true rfl) rfl rfl rfl qf_X8_222 dX8_text_36 ew62 (fun H locs hE => ?_)
    refine lv_iload_n hx hb dX8_text_39 rfl (lv_at hl 0 rfl) ?_
    refine lv_if_ne (tgt := 51) hx hb dX8_text_40 (by decide) (fun c63 => ?_) (fun c63 => ?_)
    · have h := zif' c63 h
      refine lv_aload_n hx hb dX8_text_51 rfl (lv_at hl 1 rfl) ?_
      refine zr_getA S hK hE zcl_X8 (zm_0 w62) 0 (Nat.le_of_ble_eq_true rfl) (q := 1) rfl qf_X8_9 dX8_text_52 ?_
      refine lv_bipush (v := 13) hx hb dX8_text_55 (by decide) ?_
      obtain ⟨x64, ex64, h⟩ := zbdE h
      refine zr_iald S hK hE (zm_1 w62) dX8_text_57 ex64 ?_
      refine lv_bipush (v := 14) hx hb dX8_text_58 (by decide) ?_
      refine lv_icmp_ne (tgt := 66) hx hb dX8_text_60 (by decide) (fun c65 => ?_) (fun c65 => ?_)
      · have h := zif' c65 h
        refine lv_aload_n hx hb dX8_text_66 rfl (lv_at hl 1 rfl) ?_
        refine zr_getA S hK hE zcl_X8 (zm_0 w62) 0 (Nat.le_of_ble_eq_true rfl) (q := 1) rfl qf_X8_9 dX8_text_67 ?_
        refine lv_bipush (v := 13) hx hb dX8_text_70 (by decide) ?_
        obtain ⟨x66, ex66, h⟩ := zbdE h
        refine zr_iald S hK hE (zm_1 w62) dX8_text_72 ex66 ?_
        refine lv_istore_n (lv' := [(2, .int x66), (1, .int s0), (0, .ref (ad 0))]) hx hb dX8_text_73 rfl hl (by decide) rfl (fun ls hl => ?_)
        refine lv_aload_n hx hb dX8_text_74 rfl (lv_at hl 2 rfl) ?_
        refine zr_getA S hK hE zcl_X8 (zm_0 w62) 0 (Nat.le_of_ble_eq_true rfl) (q := 1) rfl qf_X8_9 dX8_text_75 ?_
        refine lv_bipush (v := 64) hx hb dX8_text_78 (by decide) ?_
        refine lv_iconst (v := 2) hx hb dX8_text_80 (by decide) ?_
        refine lv_iload_n hx hb dX8_text_81 rfl (lv_at hl 0 rfl) ?_
        refine lv_imul hx hb dX8_text_82 ?_
        refine lv_iadd hx hb dX8_text_83 ?_
        refine lv_sipush (v := 1000) hx hb dX8_text_84 (by decide) ?_
        refine lv_aload_n hx hb dX8_text_87 rfl (lv_at hl 2 rfl) ?_
        obtain ⟨x67, ex67, h⟩ := zbdE h
        refine zr_getI S hK hE zcl_X8 (zm_0 w62) 14 (Nat.le_of_ble_eq_true rfl) rfl qf_X8_247 dX8_text_88 ex67 ?_
        refine lv_imul hx hb dX8_text_91 ?_
        refine lv_aload_n hx hb dX8_text_92 rfl (lv_at hl 2 rfl) ?_
        obtain ⟨x68, ex68, h⟩ := zbdE h
        refine zr_getI S hK hE zcl_X8 (zm_0 w62) 18 (Nat.le_of_ble_eq_true rfl) rfl qf_X8_259 dX8_text_93 ex68 ?_
        refine lv_iadd hx hb dX8_text_96 ?_
        obtain ⟨w69, ew69, h⟩ := zbdE h
        refine zr_iast S hK hE (zm_1 w62) dX8_text_97 ew69 (fun H locs hE => ?_)
        refine lv_aload_n hx hb dX8_text_98 rfl (lv_at hl 2 rfl) ?_
        refine zr_getA S hK hE zcl_X8 (zm_0 w69) 0 (Nat.le_of_ble_eq_true rfl) (q := 1) rfl qf_X8_9 dX8_text_99 ?_
        refine lv_bipush (v := 64) hx hb dX8_text_102 (by decide) ?_
        refine lv_iconst (v := 2) hx hb dX8_text_104 (by decide) ?_
        refine lv_iload_n hx hb dX8_text_105 rfl (lv_at hl 0 rfl) ?_
        refine lv_imul hx hb dX8_text_106 ?_
        refine lv_iadd hx hb dX8_text_107 ?_
        refine lv_iconst (v := 1) hx hb dX8_text_108 (by decide) ?_
        refine lv_iadd hx hb dX8_text_109 ?_
        refine lv_aload_n hx hb dX8_text_110 rfl (lv_at hl 2 rfl) ?_
        obtain ⟨x70, ex70, h⟩ := zbdE h
        refine zr_getI S hK hE zcl_X8 (zm_0 w69) 19 (Nat.le_of_ble_eq_true rfl) rfl qf_X8_265 dX8_text_111 ex70 ?_
        obtain ⟨w71, ew71, h⟩ := zbdE h
        refine zr_iast S hK hE (zm_1 w69) dX8_text_114 ew71 (fun H locs hE => ?_)
        refine lv_iconst (v := 0) hx hb dX8_text_115 (by decide) ?_
        refine lv_istore_n (lv' := [(3, .int 0), (2, .int x66), (1, .int s0), (0, .ref (ad 0))]) hx hb dX8_text_116 rfl hl (by decide) rfl (fun ls hl => ?_)
        exact L117 zfuel x66 0 w71 ls _ _ h (lv_sub hl [3, 1, 0] rfl) hE
      · have h := zif c65 h
        refine zr_ldc S qc_X8_98 dX8_text_63 ?_
        exact zr_iret S hE hr hlk h dX8_text_65
    · have h := zif c63 h
      refine lv_bipush (v := (-100)) hx hb dX8_text_43 (by decide) ?_
      refine lv_aload_n hx hb dX8_text_45 rfl (lv_at hl 1 rfl) ?_
      obtain ⟨x72, ex72, h⟩ := zbdE h
      refine zr_getI S hK hE zcl_X8 (zm_0 w62) 10 (Nat.le_of_ble_eq_true rfl) rfl qf_X8_229 dX8_text_46 ex72 ?_
      refine lv_isub hx hb dX8_text_49 ?_
      exact zr_iret S hE hr hlk h dX8_text_50
  have J32 : ∀ (w : zz_W) (ls : Array Slot) (H : Heap) (locs : List Loc), fX8_text_32 w = some (r, w_) → lv_has ls 4 [(0, .ref (ad 0))] → zE D tc lo ad zshM znnM fr w s.heap H locs → W p l e { frames := 4, cells := 0, slots := 0, locals := 87 } s m args below meth c H locs 0 0 (zZi D tc lo ad zshM znnM fr below args s r w_) (F0 m 32 ls []) := by
    intro w ls H locs h hl hE
    unfold fX8_text_32 at h
    refine lv_iconst (v := 0) hx hb dX8_text_32 (by decide) ?_
    exact J33 0 w ls _ _ h (lv_sub hl [0] rfl) hE
  refine lv_aload_n hx hb dX8_text_0 rfl (lv_at hl 0 rfl) ?_
  refine lv_iconst (v := 0) hx hb dX8_text_1 (by decide) ?_
  obtain ⟨w10001, ew10001, h⟩ := zbdE h
  refine zr_putI S hK hE zcl_X8 (zm_0 w) 9 (Nat.le_of_ble_eq_true rfl) rfl rfl rfl qf_X8_226 dX8_text_2 ew10001 (fun H locs hE => ?_)
  refine lv_aload_n hx hb dX8_text_5 rfl (lv_at hl 0 rfl) ?_
  refine lv_iconst (v := (-1)) hx hb dX8_text_6 (by decide) ?_
  obtain ⟨w10002, ew10002, h⟩ := zbdE h
  refine zr_putI S hK hE zcl_X8 (zm_0 w10001) 13 (Nat.le_of_ble_eq_true rfl) rfl rfl rfl qf_X8_232 dX8_text_7 ew10002 (fun H locs hE => ?_)
  refine lv_aload_n hx hb dX8_text_10 rfl (lv_at hl 0 rfl) ?_
  obtain ⟨w10003, ew10003, h⟩ := zbdE h
  refine zr_v (zr_runV (As := []) S hX hE (kX8_go l D tc lo ad fr zq w10002 w10003 ew10003) zyX8_go qm_X8_250 zcl_X8 rfl (zm_0 w10002) ⟨rfl, rfl⟩ ⟨Nat.le_of_ble_eq_true rfl, Nat.le_of_ble_eq_true rfl⟩ rfl hl.1 rfl (Nat.le_of_ble_eq_true rfl) dX8_text_11 ⟨Nat.zero_le _, Nat.zero_le _⟩) hE (fun H locs hE => ?_)
  refine lv_aload_n hx hb dX8_text_14 rfl (lv_at hl 0 rfl) ?_
  obtain ⟨x10004, w10005, ew10005, h⟩ := zbd2E h
  refine zr_i (zr_runV (As := []) S hX hE (kX8_takesKey l D tc lo ad fr zq w10003 x10004 w10005 ew10005) zyX8_takesKey qm_X8_280 zcl_X8 rfl (zm_0 w10003) ⟨rfl, rfl⟩ ⟨Nat.le_of_ble_eq_true rfl, Nat.le_of_ble_eq_true rfl⟩ rfl hl.1 rfl (Nat.le_of_ble_eq_true rfl) dX8_text_15 ⟨Nat.zero_le _, Nat.zero_le _⟩) hE (fun H locs hE => ?_)
  refine lv_if_eq (tgt := 32) hx hb dX8_text_18 (by decide) (fun c10006 => ?_) (fun c10006 => ?_)
  · have h := zif c10006 h
    exact J32 w10005 ls _ _ h (lv_sub hl [0] rfl) hE
  · have h := zif' c10006 h
    refine lv_aload_n hx hb dX8_text_21 rfl (lv_at hl 0 rfl) ?_
    obtain ⟨x10007, w10008, ew10008, h⟩ := zbd2E h
    refine zr_i (zr_runV (As := []) S hX hE (kX8_takesE l D tc lo ad fr zq w10005 x10007 w10008 ew10008) zyX8_takesE qm_X8_283 zcl_X8 rfl (zm_0 w10005) ⟨rfl, rfl⟩ ⟨Nat.le_of_ble_eq_true rfl, Nat.le_of_ble_eq_true rfl⟩ rfl hl.1 rfl (Nat.le_of_ble_eq_true rfl) dX8_text_22 ⟨Nat.zero_le _, Nat.zero_le _⟩) hE (fun H locs hE => ?_)
    refine lv_if_eq (tgt := 32) hx hb dX8_text_25 (by decide) (fun c10009 => ?_) (fun c10009 => ?_)
    · have h := zif c10009 h
      exact J32 w10008 ls _ _ h (lv_sub hl [0] rfl) hE
    · have h := zif' c10009 h
      refine lv_iconst (v := 1) hx hb dX8_text_28 (by decide) ?_
      refine lv_goto (tgt := 33) hx hb dX8_text_29 (by decide) ?_
      exact J33 1 w10008 ls _ _ h (lv_sub hl [0] rfl) hE
set_option maxHeartbeats 4000000 in
set_option maxRecDepth 100000 in
theorem kX8_textTold (l : Launch) (D : va_G) (tc : Nat → ClassId) (lo : Nat) (ad : Nat → Nat) (fr : va_W) (zq : zz_Q) (a1 : Int32) (a2 : Int32) (w : zz_W) (r : Int32) (w_ : zz_W) (h : fX8_textTold a1 a2 w = some (r, w_)) : zMi l yX8_textTold cX8_textTold 3 (some .int) { frames := 1, cells := 0, slots := 0, locals := 22 } D tc lo ad zshM znnM fr zq [.ref (ad 0), .int a1, .int a2] w r w_ := by
  refine zr_entry (by decide) (Nat.le_of_ble_eq_true rfl) fun p e s m args below meth c ls S hX hr hlk hE hl => ?_
  have S : CallFix p m c cX8_textTold 3 s args (Cond.code yX8_textTold cX8_textTold 3 (some .int) :: zw_tb) RX8 := S
  have hx := S.1
  have hb := S.2.1
  have hK := hX.2.1
  have hl : lv_has ls 3 [(0, .ref (ad 0)), (1, .int a1), (2, .int a2)] := hl
  unfold fX8_textTold at h
  refine lv_iload_n hx hb dX8_textTold_0 rfl (lv_at hl 1 rfl) ?_
  refine lv_iconst (v := 0) hx hb dX8_textTold_1 (by decide) ?_
  refine lv_aload_n hx hb dX8_textTold_2 rfl (lv_at hl 0 rfl) ?_
  refine zr_getA S hK hE zcl_X8 (zm_0 w) 0 (Nat.le_of_ble_eq_true rfl) (q := 1) rfl qf_X8_9 dX8_textTold_3 ?_
  refine lv_bipush (v := 13) hx hb dX8_textTold_6 (by decide) ?_
  obtain ⟨x10001, ex10001, h⟩ := zbdE h
  refine zr_iald S hK hE (zm_1 w) dX8_textTold_8 ex10001 ?_
  refine lv_iconst (v := 1) hx hb dX8_textTold_9 (by decide) ?_
  refine lv_isub hx hb dX8_textTold_10 ?_
  obtain ⟨x10002, w10003, ew10003, h⟩ := zbd2E h
  refine zr_i (zr_runS (As := [.int a1, .int 0, .int (x10001 - 1)]) S hX hE (kX8_in l D tc lo ad fr zq a1 0 (x10001 - 1) w x10002 w10003 ew10003) zyX8_in qm_X8_81 ⟨rfl, rfl⟩ ⟨Nat.le_of_ble_eq_true rfl, Nat.le_of_ble_eq_true rfl⟩ rfl hl.1 rfl (Nat.le_of_ble_eq_true rfl) dX8_textTold_11 ⟨Nat.zero_le _, Nat.zero_le _⟩) hE (fun H locs hE => ?_)
  refine lv_if_eq (tgt := 26) hx hb dX8_textTold_14 (by decide) (fun c10004 => ?_) (fun c10004 => ?_)
  · have h := zif c10004 h
    refine zr_ldc S qc_X8_97 dX8_textTold_26 ?_
    exact zr_iret S hE hr hlk h dX8_textTold_28
  · have h := zif' c10004 h
    refine lv_iload_n hx hb dX8_textTold_17 rfl (lv_at hl 2 rfl) ?_
    refine lv_iconst (v := 0) hx hb dX8_textTold_18 (by decide) ?_
    refine lv_iconst (v := 1) hx hb dX8_textTold_19 (by decide) ?_
    obtain ⟨x10005, w10006, ew10006, h⟩ := zbd2E h
    refine zr_i (zr_runS (As := [.int a2, .int 0, .int 1]) S hX hE (kX8_in l D tc lo ad fr zq a2 0 1 w10003 x10005 w10006 ew10006) zyX8_in qm_X8_81 ⟨rfl, rfl⟩ ⟨Nat.le_of_ble_eq_true rfl, Nat.le_of_ble_eq_true rfl⟩ rfl hl.1 rfl (Nat.le_of_ble_eq_true rfl) dX8_textTold_20 ⟨Nat.zero_le _, Nat.zero_le _⟩) hE (fun H locs hE => ?_)
    refine lv_if_ne (tgt := 29) hx hb dX8_textTold_23 (by decide) (fun c10007 => ?_) (fun c10007 => ?_)
    · have h := zif' c10007 h
      refine lv_iload_n hx hb dX8_textTold_29 rfl (lv_at hl 2 rfl) ?_
      refine lv_if_ne (tgt := 51) hx hb dX8_textTold_30 (by decide) (fun c10008 => ?_) (fun c10008 => ?_)
      · have h := zif' c10008 h
        refine lv_aload_n hx hb dX8_textTold_51 rfl (lv_at hl 0 rfl) ?_
        refine zr_getA S hK hE zcl_X8 (zm_0 w10006) 0 (Nat.le_of_ble_eq_true rfl) (q := 1) rfl qf_X8_9 dX8_textTold_52 ?_
        refine lv_bipush (v := 64) hx hb dX8_textTold_55 (by decide) ?_
        refine lv_iconst (v := 2) hx hb dX8_textTold_57 (by decide) ?_
        refine lv_iload_n hx hb dX8_textTold_58 rfl (lv_at hl 1 rfl) ?_
        refine lv_imul hx hb dX8_textTold_59 ?_
        refine lv_iadd hx hb dX8_textTold_60 ?_
        refine lv_iconst (v := 1) hx hb dX8_textTold_61 (by decide) ?_
        refine lv_iadd hx hb dX8_textTold_62 ?_
        obtain ⟨x10009, ex10009, h⟩ := zbdE h
        refine zr_iald S hK hE (zm_1 w10006) dX8_textTold_63 ex10009 ?_
        exact zr_iret S hE hr hlk h dX8_textTold_64
      · have h := zif c10008 h
        refine lv_aload_n hx hb dX8_textTold_33 rfl (lv_at hl 0 rfl) ?_
        refine zr_getA S hK hE zcl_X8 (zm_0 w10006) 0 (Nat.le_of_ble_eq_true rfl) (q := 1) rfl qf_X8_9 dX8_textTold_34 ?_
        refine lv_bipush (v := 64) hx hb dX8_textTold_37 (by decide) ?_
        refine lv_iconst (v := 2) hx hb dX8_textTold_39 (by decide) ?_
        refine lv_iload_n hx hb dX8_textTold_40 rfl (lv_at hl 1 rfl) ?_
        refine lv_imul hx hb dX8_textTold_41 ?_
        refine lv_iadd hx hb dX8_textTold_42 ?_
        obtain ⟨x10010, ex10010, h⟩ := zbdE h
        refine zr_iald S hK hE (zm_1 w10006) dX8_textTold_43 ex10010 ?_
        refine lv_sipush (v := 1000) hx hb dX8_textTold_44 (by decide) ?_
        obtain ⟨x10011, ex10011, h⟩ := zbdE h
        refine zr_idiv hx hb dX8_textTold_47 ex10011 ?_
        refine lv_goto (tgt := 64) hx hb dX8_textTold_48 (by decide) ?_
        exact zr_iret S hE hr hlk h dX8_textTold_64
    · have h := zif c10007 h
      refine zr_ldc S qc_X8_97 dX8_textTold_26 ?_
      exact zr_iret S hE hr hlk h dX8_textTold_28
set_option maxHeartbeats 4000000 in
set_option maxRecDepth 100000 in
theorem kX8_told (l : Launch) (D : va_G) (tc : Nat → ClassId) (lo : Nat) (ad : Nat → Nat) (fr : va_W) (zq : zz_Q) (a1 : Int32) (a2 : Int32) (w : zz_W) (r : Int32) (w_ : zz_W) (h : fX8_told a1 a2 w = some (r, w_)) : zMi l yX8_told cX8_told 3 (some .int) { frames := 3, cells := 0, slots := 0, locals := 70 } D tc lo ad zshM znnM fr zq [.ref (ad 0), .int a1, .int a2] w r w_ := by
  refine zr_entry (by decide) (Nat.le_of_ble_eq_true rfl) fun p e s m args below meth c ls S hX hr hlk hE hl => ?_
  have S : CallFix p m c cX8_told 3 s args (Cond.code yX8_told cX8_told 3 (some .int) :: zw_tb) RX8 := S
  have hx := S.1
  have hb := S.2.1
  have hK := hX.2.1
  have hl : lv_has ls 3 [(0, .ref (ad 0)), (1, .int a1), (2, .int a2)] := hl
  unfold fX8_told at h
  refine lv_aload_n hx hb dX8_told_0 rfl (lv_at hl 0 rfl) ?_
  refine lv_iload_n hx hb dX8_told_1 rfl (lv_at hl 1 rfl) ?_
  obtain ⟨x10001, w10002, ew10002, h⟩ := zbd2E h
  refine zr_i (zr_runV (As := [.int a1]) S hX hE (kX8_isRun l D tc lo ad fr zq a1 w x10001 w10002 ew10002) zyX8_isRun qm_X8_121 zcl_X8 rfl (zm_0 w) ⟨rfl, rfl⟩ ⟨Nat.le_of_ble_eq_true rfl, Nat.le_of_ble_eq_true rfl⟩ rfl hl.1 rfl (Nat.le_of_ble_eq_true rfl) dX8_told_2 ⟨Nat.zero_le _, Nat.zero_le _⟩) hE (fun H locs hE => ?_)
  refine lv_if_ne (tgt := 11) hx hb dX8_told_5 (by decide) (fun c10003 => ?_) (fun c10003 => ?_)
  · have h := zif' c10003 h
    refine lv_iload_n hx hb dX8_told_11 rfl (lv_at hl 2 rfl) ?_
    by_cases c10006 : a2 = 0
    · refine lv_tableIn (off := 48) (tgt := 60) hx hb dX8_told_12 (by rw [c10006]; decide) (by rw [c10006]; decide) (by rw [c10006]; decide) (by decide) ?_
      have h := zif c10006 h
      refine lv_aload_n hx hb dX8_told_60 rfl (lv_at hl 0 rfl) ?_
      refine lv_iload_n hx hb dX8_told_61 rfl (lv_at hl 1 rfl) ?_
      refine lv_iload_n hx hb dX8_told_62 rfl (lv_at hl 2 rfl) ?_
      obtain ⟨x10004, w10005, ew10005, h⟩ := zbd2E h
      refine zr_i (zr_runV (As := [.int a1, .int a2]) S hX hE (kX8_of l D tc lo ad fr zq a1 a2 w10002 x10004 w10005 ew10005) zyX8_of qm_X8_103 zcl_X8 rfl (zm_0 w10002) ⟨rfl, rfl⟩ ⟨Nat.le_of_ble_eq_true rfl, Nat.le_of_ble_eq_true rfl⟩ rfl hl.1 rfl (Nat.le_of_ble_eq_true rfl) dX8_told_63 ⟨Nat.zero_le _, Nat.zero_le _⟩) hE (fun H locs hE => ?_)
      exact zr_iret S hE hr hlk h dX8_told_66
    have h := zif' c10006 h
    by_cases c10009 : a2 = 1
    · refine lv_tableIn (off := 48) (tgt := 60) hx hb dX8_told_12 (by rw [c10009]; decide) (by rw [c10009]; decide) (by rw [c10009]; decide) (by decide) ?_
      have h := zif c10009 h
      refine lv_aload_n hx hb dX8_told_60 rfl (lv_at hl 0 rfl) ?_
      refine lv_iload_n hx hb dX8_told_61 rfl (lv_at hl 1 rfl) ?_
      refine lv_iload_n hx hb dX8_told_62 rfl (lv_at hl 2 rfl) ?_
      obtain ⟨x10007, w10008, ew10008, h⟩ := zbd2E h
      refine zr_i (zr_runV (As := [.int a1, .int a2]) S hX hE (kX8_of l D tc lo ad fr zq a1 a2 w10002 x10007 w10008 ew10008) zyX8_of qm_X8_103 zcl_X8 rfl (zm_0 w10002) ⟨rfl, rfl⟩ ⟨Nat.le_of_ble_eq_true rfl, Nat.le_of_ble_eq_true rfl⟩ rfl hl.1 rfl (Nat.le_of_ble_eq_true rfl) dX8_told_63 ⟨Nat.zero_le _, Nat.zero_le _⟩) hE (fun H locs hE => ?_)
      exact zr_iret S hE hr hlk h dX8_told_66
    have h := zif' c10009 h
    by_cases c10012 : a2 = 2
    · refine lv_tableIn (off := 48) (tgt := 60) hx hb dX8_told_12 (by rw [c10012]; decide) (by rw [c10012]; decide) (by rw [c10012]; decide) (by decide) ?_
      have h := zif c10012 h
      refine lv_aload_n hx hb dX8_told_60 rfl (lv_at hl 0 rfl) ?_
      refine lv_iload_n hx hb dX8_told_61 rfl (lv_at hl 1 rfl) ?_
      refine lv_iload_n hx hb dX8_told_62 rfl (lv_at hl 2 rfl) ?_
      obtain ⟨x10010, w10011, ew10011, h⟩ := zbd2E h
      refine zr_i (zr_runV (As := [.int a1, .int a2]) S hX hE (kX8_of l D tc lo ad fr zq a1 a2 w10002 x10010 w10011 ew10011) zyX8_of qm_X8_103 zcl_X8 rfl (zm_0 w10002) ⟨rfl, rfl⟩ ⟨Nat.le_of_ble_eq_true rfl, Nat.le_of_ble_eq_true rfl⟩ rfl hl.1 rfl (Nat.le_of_ble_eq_true rfl) dX8_told_63 ⟨Nat.zero_le _, Nat.zero_le _⟩) hE (fun H locs hE => ?_)
      exact zr_iret S hE hr hlk h dX8_told_66
    have h := zif' c10012 h
    by_cases c10015 : a2 = 3
    · refine lv_tableIn (off := 48) (tgt := 60) hx hb dX8_told_12 (by rw [c10015]; decide) (by rw [c10015]; decide) (by rw [c10015]; decide) (by decide) ?_
      have h := zif c10015 h
      refine lv_aload_n hx hb dX8_told_60 rfl (lv_at hl 0 rfl) ?_
      refine lv_iload_n hx hb dX8_told_61 rfl (lv_at hl 1 rfl) ?_
      refine lv_iload_n hx hb dX8_told_62 rfl (lv_at hl 2 rfl) ?_
      obtain ⟨x10013, w10014, ew10014, h⟩ := zbd2E h
      refine zr_i (zr_runV (As := [.int a1, .int a2]) S hX hE (kX8_of l D tc lo ad fr zq a1 a2 w10002 x10013 w10014 ew10014) zyX8_of qm_X8_103 zcl_X8 rfl (zm_0 w10002) ⟨rfl, rfl⟩ ⟨Nat.le_of_ble_eq_true rfl, Nat.le_of_ble_eq_true rfl⟩ rfl hl.1 rfl (Nat.le_of_ble_eq_true rfl) dX8_told_63 ⟨Nat.zero_le _, Nat.zero_le _⟩) hE (fun H locs hE => ?_)
      exact zr_iret S hE hr hlk h dX8_told_66
    have h := zif' c10015 h
    by_cases c10018 : a2 = 4
    · refine lv_tableIn (off := 48) (tgt := 60) hx hb dX8_told_12 (by rw [c10018]; decide) (by rw [c10018]; decide) (by rw [c10018]; decide) (by decide) ?_
      have h := zif c10018 h
      refine lv_aload_n hx hb dX8_told_60 rfl (lv_at hl 0 rfl) ?_
      refine lv_iload_n hx hb dX8_told_61 rfl (lv_at hl 1 rfl) ?_
      refine lv_iload_n hx hb dX8_told_62 rfl (lv_at hl 2 rfl) ?_
      obtain ⟨x10016, w10017, ew10017, h⟩ := zbd2E h
      refine zr_i (zr_runV (As := [.int a1, .int a2]) S hX hE (kX8_of l D tc lo ad fr zq a1 a2 w10002 x10016 w10017 ew10017) zyX8_of qm_X8_103 zcl_X8 rfl (zm_0 w10002) ⟨rfl, rfl⟩ ⟨Nat.le_of_ble_eq_true rfl, Nat.le_of_ble_eq_true rfl⟩ rfl hl.1 rfl (Nat.le_of_ble_eq_true rfl) dX8_told_63 ⟨Nat.zero_le _, Nat.zero_le _⟩) hE (fun H locs hE => ?_)
      exact zr_iret S hE hr hlk h dX8_told_66
    have h := zif' c10018 h
    by_cases c10021 : a2 = 5
    · refine lv_tableIn (off := 55) (tgt := 67) hx hb dX8_told_12 (by rw [c10021]; decide) (by rw [c10021]; decide) (by rw [c10021]; decide) (by decide) ?_
      have h := zif c10021 h
      refine lv_aload_n hx hb dX8_told_67 rfl (lv_at hl 0 rfl) ?_
      refine lv_iload_n hx hb dX8_told_68 rfl (lv_at hl 1 rfl) ?_
      obtain ⟨x10019, w10020, ew10020, h⟩ := zbd2E h
      refine zr_i (zr_runV (As := [.int a1]) S hX hE (kX8_hurtBy l D tc lo ad fr zq a1 w10002 x10019 w10020 ew10020) zyX8_hurtBy qm_X8_124 zcl_X8 rfl (zm_0 w10002) ⟨rfl, rfl⟩ ⟨Nat.le_of_ble_eq_true rfl, Nat.le_of_ble_eq_true rfl⟩ rfl hl.1 rfl (Nat.le_of_ble_eq_true rfl) dX8_told_69 ⟨Nat.zero_le _, Nat.zero_le _⟩) hE (fun H locs hE => ?_)
      exact zr_iret S hE hr hlk h dX8_told_72
    have h := zif' c10021 h
    by_cases c10024 : a2 = 6
    · refine lv_tableIn (off := 61) (tgt := 73) hx hb dX8_told_12 (by rw [c10024]; decide) (by rw [c10024]; decide) (by rw [c10024]; decide) (by decide) ?_
      have h := zif c10024 h
      refine lv_aload_n hx hb dX8_told_73 rfl (lv_at hl 0 rfl) ?_
      refine lv_iload_n hx hb dX8_told_74 rfl (lv_at hl 1 rfl) ?_
      obtain ⟨x10022, w10023, ew10023, h⟩ := zbd2E h
      refine zr_i (zr_runV (As := [.int a1]) S hX hE (kX8_manyPassed l D tc lo ad fr zq a1 w10002 x10022 w10023 ew10023) zyX8_manyPassed qm_X8_127 zcl_X8 rfl (zm_0 w10002) ⟨rfl, rfl⟩ ⟨Nat.le_of_ble_eq_true rfl, Nat.le_of_ble_eq_true rfl⟩ rfl hl.1 rfl (Nat.le_of_ble_eq_true rfl) dX8_told_75 ⟨Nat.zero_le _, Nat.zero_le _⟩) hE (fun H locs hE => ?_)
      exact zr_iret S hE hr hlk h dX8_told_78
    have h := zif' c10024 h
    by_cases c10027 : a2 = 7
    · refine lv_tableIn (off := 67) (tgt := 79) hx hb dX8_told_12 (by rw [c10027]; decide) (by rw [c10027]; decide) (by rw [c10027]; decide) (by decide) ?_
      have h := zif c10027 h
      refine lv_aload_n hx hb dX8_told_79 rfl (lv_at hl 0 rfl) ?_
      refine lv_iload_n hx hb dX8_told_80 rfl (lv_at hl 1 rfl) ?_
      obtain ⟨x10025, w10026, ew10026, h⟩ := zbd2E h
      refine zr_i (zr_runV (As := [.int a1]) S hX hE (kX8_worthOf l D tc lo ad fr zq a1 w10002 x10025 w10026 ew10026) zyX8_worthOf qm_X8_130 zcl_X8 rfl (zm_0 w10002) ⟨rfl, rfl⟩ ⟨Nat.le_of_ble_eq_true rfl, Nat.le_of_ble_eq_true rfl⟩ rfl hl.1 rfl (Nat.le_of_ble_eq_true rfl) dX8_told_81 ⟨Nat.zero_le _, Nat.zero_le _⟩) hE (fun H locs hE => ?_)
      exact zr_iret S hE hr hlk h dX8_told_84
    have h := zif' c10027 h
    refine lv_tableOut (tgt := 85) hx hb dX8_told_12 (by have tc10006 := lv_neT c10006 (a := 0) (by decide); have tc10009 := lv_neT c10009 (a := 1) (by decide); have tc10012 := lv_neT c10012 (a := 2) (by decide); have tc10015 := lv_neT c10015 (a := 3) (by decide); have tc10018 := lv_neT c10018 (a := 4) (by decide); have tc10021 := lv_neT c10021 (a := 5) (by decide); have tc10024 := lv_neT c10024 (a := 6) (by decide); have tc10027 := lv_neT c10027 (a := 7) (by decide); omega) (by decide) ?_
    refine zr_ldc S qc_X8_97 dX8_told_85 ?_
    exact zr_iret S hE hr hlk h dX8_told_87
  · have h := zif c10003 h
    refine zr_ldc S qc_X8_97 dX8_told_8 ?_
    exact zr_iret S hE hr hlk h dX8_told_10
set_option maxHeartbeats 4000000 in
set_option maxRecDepth 100000 in
theorem kX8_trim (l : Launch) (D : va_G) (tc : Nat → ClassId) (lo : Nat) (ad : Nat → Nat) (fr : va_W) (zq : zz_Q) (a1 : Int32) (w : zz_W) (r : Int32) (w_ : zz_W) (h : fX8_trim a1 w = some (r, w_)) : zMi l yX8_trim cX8_trim 2 (some .int) { frames := 1, cells := 0, slots := 0, locals := 22 } D tc lo ad zshM znnM fr zq [.ref (ad 0), .int a1] w r w_ := by
  refine zr_entry (by decide) (Nat.le_of_ble_eq_true rfl) fun p e s m args below meth c ls S hX hr hlk hE hl => ?_
  have S : CallFix p m c cX8_trim 2 s args (Cond.code yX8_trim cX8_trim 2 (some .int) :: zw_tb) RX8 := S
  have hx := S.1
  have hb := S.2.1
  have hK := hX.2.1
  have hl : lv_has ls 2 [(0, .ref (ad 0)), (1, .int a1)] := hl
  unfold fX8_trim at h
  refine lv_iload_n hx hb dX8_trim_0 rfl (lv_at hl 1 rfl) ?_
  refine lv_iconst (v := 0) hx hb dX8_trim_1 (by decide) ?_
  refine lv_aload_n hx hb dX8_trim_2 rfl (lv_at hl 0 rfl) ?_
  obtain ⟨x10001, ex10001, h⟩ := zbdE h
  refine zr_getI S hK hE zcl_X8 (zm_0 w) 8 (Nat.le_of_ble_eq_true rfl) rfl qf_X8_222 dX8_trim_3 ex10001 ?_
  obtain ⟨x10002, w10003, ew10003, h⟩ := zbd2E h
  refine zr_i (zr_runS (As := [.int a1, .int 0, .int x10001]) S hX hE (kX8_in l D tc lo ad fr zq a1 0 x10001 w x10002 w10003 ew10003) zyX8_in qm_X8_81 ⟨rfl, rfl⟩ ⟨Nat.le_of_ble_eq_true rfl, Nat.le_of_ble_eq_true rfl⟩ rfl hl.1 rfl (Nat.le_of_ble_eq_true rfl) dX8_trim_6 ⟨Nat.zero_le _, Nat.zero_le _⟩) hE (fun H locs hE => ?_)
  refine lv_if_ne (tgt := 15) hx hb dX8_trim_9 (by decide) (fun c10004 => ?_) (fun c10004 => ?_)
  · have h := zif' c10004 h
    refine lv_aload_n hx hb dX8_trim_15 rfl (lv_at hl 0 rfl) ?_
    refine lv_iload_n hx hb dX8_trim_16 rfl (lv_at hl 1 rfl) ?_
    obtain ⟨w10005, ew10005, h⟩ := zbdE h
    refine zr_putI S hK hE zcl_X8 (zm_0 w10003) 8 (Nat.le_of_ble_eq_true rfl) rfl rfl rfl qf_X8_222 dX8_trim_17 ew10005 (fun H locs hE => ?_)
    refine lv_iload_n hx hb dX8_trim_20 rfl (lv_at hl 1 rfl) ?_
    exact zr_iret S hE hr hlk h dX8_trim_21
  · have h := zif c10004 h
    refine zr_ldc S qc_X8_97 dX8_trim_12 ?_
    exact zr_iret S hE hr hlk h dX8_trim_14
set_option maxHeartbeats 4000000 in
set_option maxRecDepth 100000 in
theorem kX8_turns (l : Launch) (D : va_G) (tc : Nat → ClassId) (lo : Nat) (ad : Nat → Nat) (fr : va_W) (zq : zz_Q) (a1 : Int32) (a2 : Int32) (w : zz_W) (r : Int32) (w_ : zz_W) (h : fX8_turns a1 a2 w = some (r, w_)) : zMi l yX8_turns cX8_turns 3 (some .int) { frames := 2, cells := 0, slots := 0, locals := 43 } D tc lo ad zshM znnM fr zq [.ref (ad 0), .int a1, .int a2] w r w_ := by
  refine zr_entry (by decide) (Nat.le_of_ble_eq_true rfl) fun p e s m args below meth c ls S hX hr hlk hE hl => ?_
  have S : CallFix p m c cX8_turns 3 s args (Cond.code yX8_turns cX8_turns 3 (some .int) :: zw_tb) RX8 := S
  have hx := S.1
  have hb := S.2.1
  have hK := hX.2.1
  have hl : lv_has ls 3 [(0, .ref (ad 0)), (1, .int a1), (2, .int a2)] := hl
  unfold fX8_turns at h
  refine lv_aload_n hx hb dX8_turns_0 rfl (lv_at hl 0 rfl) ?_
  refine lv_iload_n hx hb dX8_turns_1 rfl (lv_at hl 1 rfl) ?_
  obtain ⟨x10001, w10002, ew10002, h⟩ := zbd2E h
  refine zr_i (zr_runV (As := [.int a1]) S hX hE (kX8_isRun l D tc lo ad fr zq a1 w x10001 w10002 ew10002) zyX8_isRun qm_X8_121 zcl_X8 rfl (zm_0 w) ⟨rfl, rfl⟩ ⟨Nat.le_of_ble_eq_true rfl, Nat.le_of_ble_eq_true rfl⟩ rfl hl.1 rfl (Nat.le_of_ble_eq_true rfl) dX8_turns_2 ⟨Nat.zero_le _, Nat.zero_le _⟩) hE (fun H locs hE => ?_)
  refine lv_if_eq (tgt := 31) hx hb dX8_turns_5 (by decide) (fun c10003 => ?_) (fun c10003 => ?_)
  · have h := zif c10003 h
    refine zr_ldc S qc_X8_97 dX8_turns_31 ?_
    exact zr_iret S hE hr hlk h dX8_turns_33
  · have h := zif' c10003 h
    refine lv_iload_n hx hb dX8_turns_8 rfl (lv_at hl 2 rfl) ?_
    refine lv_iconst (v := 0) hx hb dX8_turns_9 (by decide) ?_
    refine lv_iconst (v := 5) hx hb dX8_turns_10 (by decide) ?_
    obtain ⟨x10004, w10005, ew10005, h⟩ := zbd2E h
    refine zr_i (zr_runS (As := [.int a2, .int 0, .int 5]) S hX hE (kX8_in l D tc lo ad fr zq a2 0 5 w10002 x10004 w10005 ew10005) zyX8_in qm_X8_81 ⟨rfl, rfl⟩ ⟨Nat.le_of_ble_eq_true rfl, Nat.le_of_ble_eq_true rfl⟩ rfl hl.1 rfl (Nat.le_of_ble_eq_true rfl) dX8_turns_11 ⟨Nat.zero_le _, Nat.zero_le _⟩) hE (fun H locs hE => ?_)
    refine lv_if_eq (tgt := 31) hx hb dX8_turns_14 (by decide) (fun c10006 => ?_) (fun c10006 => ?_)
    · have h := zif c10006 h
      refine zr_ldc S qc_X8_97 dX8_turns_31 ?_
      exact zr_iret S hE hr hlk h dX8_turns_33
    · have h := zif' c10006 h
      refine lv_aload_n hx hb dX8_turns_17 rfl (lv_at hl 0 rfl) ?_
      refine lv_bipush (v := 14) hx hb dX8_turns_18 (by decide) ?_
      refine lv_iconst (v := 5) hx hb dX8_turns_20 (by decide) ?_
      refine lv_iload_n hx hb dX8_turns_21 rfl (lv_at hl 1 rfl) ?_
      refine lv_imul hx hb dX8_turns_22 ?_
      refine lv_iadd hx hb dX8_turns_23 ?_
      refine lv_iload_n hx hb dX8_turns_24 rfl (lv_at hl 2 rfl) ?_
      obtain ⟨x10007, w10008, ew10008, h⟩ := zbd2E h
      refine zr_i (zr_runV (As := [.int (14 + (5 * a1)), .int a2]) S hX hE (kX8_becomes l D tc lo ad fr zq (14 + (5 * a1)) a2 w10005 x10007 w10008 ew10008) zyX8_becomes qm_X8_137 zcl_X8 rfl (zm_0 w10005) ⟨rfl, rfl⟩ ⟨Nat.le_of_ble_eq_true rfl, Nat.le_of_ble_eq_true rfl⟩ rfl hl.1 rfl (Nat.le_of_ble_eq_true rfl) dX8_turns_25 ⟨Nat.zero_le _, Nat.zero_le _⟩) hE (fun H locs hE => ?_)
      refine lv_goto (tgt := 33) hx hb dX8_turns_28 (by decide) ?_
      exact zr_iret S hE hr hlk h dX8_turns_33
set_option maxHeartbeats 4000000 in
set_option maxRecDepth 100000 in
theorem kX8_when (l : Launch) (D : va_G) (tc : Nat → ClassId) (lo : Nat) (ad : Nat → Nat) (fr : va_W) (zq : zz_Q) (w : zz_W) (r : Int32) (w_ : zz_W) (h : fX8_when w = some (r, w_)) : zMi l yX8_when cX8_when 2 (some .int) { frames := 5, cells := 0, slots := 0, locals := 119 } D tc lo ad zshM znnM fr zq [.ref (ad 0)] w r w_ := by
  refine zr_entry (by decide) (Nat.le_of_ble_eq_true rfl) fun p e s m args below meth c ls S hX hr hlk hE hl => ?_
  have S : CallFix p m c cX8_when 2 s args (Cond.code yX8_when cX8_when 2 (some .int) :: zw_tb) RX8 := S
  have hx := S.1
  have hb := S.2.1
  have hK := hX.2.1
  have hl : lv_has ls 2 [(0, .ref (ad 0))] := hl
  unfold fX8_when at h
  have J29 : ∀ (l1 : Int32) (w : zz_W) (ls : Array Slot) (H : Heap) (locs : List Loc), fX8_when_29 l1 w = some (r, w_) → lv_has ls 2 [(0, .ref (ad 0)), (1, .int l1)] → zE D tc lo ad zshM znnM fr w s.heap H locs → W p l e { frames := 5, cells := 0, slots := 0, locals := 119 } s m args below meth c H locs 0 0 (zZi D tc lo ad zshM znnM fr below args s r w_) (F0 m 29 ls []) := by
    intro l1 w ls H locs h hl hE
    unfold fX8_when_29 at h
    refine lv_aload_n hx hb dX8_when_29 rfl (lv_at hl 0 rfl) ?_
    obtain ⟨w19, ew19, h⟩ := zbdE h
    refine zr_v (zr_runV (As := []) S hX hE (kX8_putsBack l D tc lo ad fr zq w w19 ew19) zyX8_putsBack qm_X8_219 zcl_X8 rfl (zm_0 w) ⟨rfl, rfl⟩ ⟨Nat.le_of_ble_eq_true rfl, Nat.le_of_ble_eq_true rfl⟩ rfl hl.1 rfl (Nat.le_of_ble_eq_true rfl) dX8_when_30 ⟨Nat.zero_le _, Nat.zero_le _⟩) hE (fun H locs hE => ?_)
    refine lv_iload_n hx hb dX8_when_33 rfl (lv_at hl 1 rfl) ?_
    refine lv_bipush (v := 100) hx hb dX8_when_34 (by decide) ?_
    refine lv_icmp_le (tgt := 44) hx hb dX8_when_36 (by decide) (fun c20 => ?_) (fun c20 => ?_)
    · have h := zif c20 h
      refine lv_iload_n hx hb dX8_when_44 rfl (lv_at hl 1 rfl) ?_
      exact zr_iret S hE hr hlk h dX8_when_45
    · have h := zif' c20 h
      refine zr_ldc S qc_X8_176 dX8_when_39 ?_
      refine lv_goto (tgt := 45) hx hb dX8_when_41 (by decide) ?_
      exact zr_iret S hE hr hlk h dX8_when_45
  have L6 : ∀ (n : Nat) (l1 : Int32) (w : zz_W) (ls : Array Slot) (H : Heap) (locs : List Loc), fX8_when_6 n l1 w = some (r, w_) → lv_has ls 2 [(0, .ref (ad 0)), (1, .int l1)] → zE D tc lo ad zshM znnM fr w s.heap H locs → W p l e { frames := 5, cells := 0, slots := 0, locals := 119 } s m args below meth c H locs 0 0 (zZi D tc lo ad zshM znnM fr below args s r w_) (F0 m 6 ls []) := by
    intro n6
    induction n6 with
    | zero => intro l1 w ls H locs h hl hE; rw [fX8_when_6] at h; cases h
    | succ n6 ih6 =>
      intro l1 w ls H locs h hl hE
      rw [fX8_when_6] at h
      refine lv_iload_n hx hb dX8_when_6 rfl (lv_at hl 1 rfl) ?_
      refine lv_bipush (v := 100) hx hb dX8_when_7 (by decide) ?_
      refine lv_icmp_gt (tgt := 29) hx hb dX8_when_9 (by decide) (fun c21 => ?_) (fun c21 => ?_)
      · have h := zif c21 h
        exact J29 l1 w ls _ _ h (lv_sub hl [0, 1] rfl) hE
      · have h := zif' c21 h
        refine lv_aload_n hx hb dX8_when_12 rfl (lv_at hl 0 rfl) ?_
        obtain ⟨x22, w23, ew23, h⟩ := zbd2E h
        refine zr_i (zr_runV (As := []) S hX hE (kX8_isKnown l D tc lo ad fr zq w x22 w23 ew23) zyX8_isKnown qm_X8_183 zcl_X8 rfl (zm_0 w) ⟨rfl, rfl⟩ ⟨Nat.le_of_ble_eq_true rfl, Nat.le_of_ble_eq_true rfl⟩ rfl hl.1 rfl (Nat.le_of_ble_eq_true rfl) dX8_when_13 ⟨Nat.zero_le _, Nat.zero_le _⟩) hE (fun H locs hE => ?_)
        refine lv_if_ne (tgt := 29) hx hb dX8_when_16 (by decide) (fun c24 => ?_) (fun c24 => ?_)
        · have h := zif' c24 h
          exact J29 l1 w23 ls _ _ h (lv_sub hl [0, 1] rfl) hE
        · have h := zif c24 h
          refine lv_aload_n hx hb dX8_when_19 rfl (lv_at hl 0 rfl) ?_
          obtain ⟨w25, ew25, h⟩ := zbdE h
          refine zr_v (zr_runV (As := []) S hX hE (kX8_step l D tc lo ad fr zq w23 w25 ew25) zyX8_step qm_X8_165 zcl_X8 rfl (zm_0 w23) ⟨rfl, rfl⟩ ⟨Nat.le_of_ble_eq_true rfl, Nat.le_of_ble_eq_true rfl⟩ rfl hl.1 rfl (Nat.le_of_ble_eq_true rfl) dX8_when_20 ⟨Nat.zero_le _, Nat.zero_le _⟩) hE (fun H locs hE => ?_)
          obtain ⟨x26, ex26, h⟩ := zbdE h
          refine lv_iinc (v := x26) (lv' := [(1, .int x26), (0, .ref (ad 0))]) hx hb dX8_when_23 hl (k := 1) rfl (zinc (k := 1) (by decide) ex26) (by decide) rfl (fun ls hl => ?_)
          refine lv_goto (tgt := 6) hx hb dX8_when_26 (by decide) ?_
          exact ih6 x26 w25 ls _ _ h (lv_sub hl [1, 0] rfl) hE
  refine lv_aload_n hx hb dX8_when_0 rfl (lv_at hl 0 rfl) ?_
  obtain ⟨w10001, ew10001, h⟩ := zbdE h
  refine zr_v (zr_runV (As := []) S hX hE (kX8_thinks l D tc lo ad fr zq w w10001 ew10001) zyX8_thinks qm_X8_216 zcl_X8 rfl (zm_0 w) ⟨rfl, rfl⟩ ⟨Nat.le_of_ble_eq_true rfl, Nat.le_of_ble_eq_true rfl⟩ rfl hl.1 rfl (Nat.le_of_ble_eq_true rfl) dX8_when_1 ⟨Nat.zero_le _, Nat.zero_le _⟩) hE (fun H locs hE => ?_)
  refine lv_iconst (v := 0) hx hb dX8_when_4 (by decide) ?_
  refine lv_istore_n (lv' := [(1, .int 0), (0, .ref (ad 0))]) hx hb dX8_when_5 rfl hl (by decide) rfl (fun ls hl => ?_)
  exact L6 zfuel 0 w10001 ls _ _ h (lv_sub hl [1, 0] rfl) hE
set_option maxHeartbeats 4000000 in
set_option maxRecDepth 100000 in
theorem kX8_where (l : Launch) (D : va_G) (tc : Nat → ClassId) (lo : Nat) (ad : Nat → Nat) (fr : va_W) (zq : zz_Q) (a1 : Int32) (a2 : Int32) (a3 : Int32) (w : zz_W) (r : Int32) (w_ : zz_W) (h : fX8_where a1 a2 a3 w = some (r, w_)) : zMi l yX8_where cX8_where 5 (some .int) { frames := 5, cells := 0, slots := 0, locals := 113 } D tc lo ad zshM znnM fr zq [.ref (ad 0), .int a1, .int a2, .int a3] w r w_ := by
  refine zr_entry (by decide) (Nat.le_of_ble_eq_true rfl) fun p e s m args below meth c ls S hX hr hlk hE hl => ?_
  have S : CallFix p m c cX8_where 5 s args (Cond.code yX8_where cX8_where 5 (some .int) :: zw_tb) RX8 := S
  have hx := S.1
  have hb := S.2.1
  have hK := hX.2.1
  have hl : lv_has ls 5 [(0, .ref (ad 0)), (1, .int a1), (2, .int a2), (3, .int a3)] := hl
  unfold fX8_where at h
  refine lv_iload_n hx hb dX8_where_0 rfl (lv_at hl 1 rfl) ?_
  obtain ⟨x10001, w10002, ew10002, h⟩ := zbd2E h
  refine zr_i (zr_runS (As := [.int a1]) S hX hE (kX8_isSheet l D tc lo ad fr zq a1 w x10001 w10002 ew10002) zyX8_isSheet qm_X8_197 ⟨rfl, rfl⟩ ⟨Nat.le_of_ble_eq_true rfl, Nat.le_of_ble_eq_true rfl⟩ rfl hl.1 rfl (Nat.le_of_ble_eq_true rfl) dX8_where_1 ⟨Nat.zero_le _, Nat.zero_le _⟩) hE (fun H locs hE => ?_)
  refine lv_if_eq (tgt := 26) hx hb dX8_where_4 (by decide) (fun c10003 => ?_) (fun c10003 => ?_)
  · have h := zif c10003 h
    refine zr_ldc S qc_X8_97 dX8_where_26 ?_
    exact zr_iret S hE hr hlk h dX8_where_28
  · have h := zif' c10003 h
    refine lv_iload_n hx hb dX8_where_7 rfl (lv_at hl 2 rfl) ?_
    refine lv_iconst (v := 1) hx hb dX8_where_8 (by decide) ?_
    refine lv_bipush (v := 9) hx hb dX8_where_9 (by decide) ?_
    obtain ⟨x10004, w10005, ew10005, h⟩ := zbd2E h
    refine zr_i (zr_runS (As := [.int a2, .int 1, .int 9]) S hX hE (kX8_in l D tc lo ad fr zq a2 1 9 w10002 x10004 w10005 ew10005) zyX8_in qm_X8_81 ⟨rfl, rfl⟩ ⟨Nat.le_of_ble_eq_true rfl, Nat.le_of_ble_eq_true rfl⟩ rfl hl.1 rfl (Nat.le_of_ble_eq_true rfl) dX8_where_11 ⟨Nat.zero_le _, Nat.zero_le _⟩) hE (fun H locs hE => ?_)
    refine lv_if_eq (tgt := 26) hx hb dX8_where_14 (by decide) (fun c10006 => ?_) (fun c10006 => ?_)
    · have h := zif c10006 h
      refine zr_ldc S qc_X8_97 dX8_where_26 ?_
      exact zr_iret S hE hr hlk h dX8_where_28
    · have h := zif' c10006 h
      refine lv_iload_n hx hb dX8_where_17 rfl (lv_at hl 3 rfl) ?_
      refine lv_iconst (v := 0) hx hb dX8_where_18 (by decide) ?_
      refine lv_iconst (v := 1) hx hb dX8_where_19 (by decide) ?_
      obtain ⟨x10007, w10008, ew10008, h⟩ := zbd2E h
      refine zr_i (zr_runS (As := [.int a3, .int 0, .int 1]) S hX hE (kX8_in l D tc lo ad fr zq a3 0 1 w10005 x10007 w10008 ew10008) zyX8_in qm_X8_81 ⟨rfl, rfl⟩ ⟨Nat.le_of_ble_eq_true rfl, Nat.le_of_ble_eq_true rfl⟩ rfl hl.1 rfl (Nat.le_of_ble_eq_true rfl) dX8_where_20 ⟨Nat.zero_le _, Nat.zero_le _⟩) hE (fun H locs hE => ?_)
      refine lv_if_ne (tgt := 29) hx hb dX8_where_23 (by decide) (fun c10009 => ?_) (fun c10009 => ?_)
      · have h := zif' c10009 h
        refine lv_aload_n hx hb dX8_where_29 rfl (lv_at hl 0 rfl) ?_
        refine zr_getA S hK hE zcl_X8 (zm_0 w10008) 25 (Nat.le_of_ble_eq_true rfl) (q := 15) rfl qf_X8_54 dX8_where_30 ?_
        refine lv_iload_n hx hb dX8_where_33 rfl (lv_at hl 1 rfl) ?_
        obtain ⟨x10010, ex10010, h⟩ := zbdE h
        refine zr_iald S hK hE (zm_15 w10008) dX8_where_34 ex10010 ?_
        refine lv_if_ge (tgt := 41) hx hb dX8_where_35 (by decide) (fun c10011 => ?_) (fun c10011 => ?_)
        · have h := zif c10011 h
          refine lv_aload_n hx hb dX8_where_41 rfl (lv_at hl 0 rfl) ?_
          obtain ⟨w10012, ew10012, h⟩ := zbdE h
          refine zr_v (zr_runV (As := []) S hX hE (kX8_weighsAll l D tc lo ad fr zq w10008 w10012 ew10012) zyX8_weighsAll qm_X8_187 zcl_X8 rfl (zm_0 w10008) ⟨rfl, rfl⟩ ⟨Nat.le_of_ble_eq_true rfl, Nat.le_of_ble_eq_true rfl⟩ rfl hl.1 rfl (Nat.le_of_ble_eq_true rfl) dX8_where_42 ⟨Nat.zero_le _, Nat.zero_le _⟩) hE (fun H locs hE => ?_)
          refine lv_aload_n hx hb dX8_where_45 rfl (lv_at hl 0 rfl) ?_
          refine lv_iload_n hx hb dX8_where_46 rfl (lv_at hl 1 rfl) ?_
          refine lv_iload_n hx hb dX8_where_47 rfl (lv_at hl 2 rfl) ?_
          obtain ⟨x10013, w10014, ew10014, h⟩ := zbd2E h
          refine zr_i (zr_runV (As := [.int a1, .int a2]) S hX hE (kX8_leastOf l D tc lo ad fr zq a1 a2 w10012 x10013 w10014 ew10014) zyX8_leastOf qm_X8_201 zcl_X8 rfl (zm_0 w10012) ⟨rfl, rfl⟩ ⟨Nat.le_of_ble_eq_true rfl, Nat.le_of_ble_eq_true rfl⟩ rfl hl.1 rfl (Nat.le_of_ble_eq_true rfl) dX8_where_48 ⟨Nat.zero_le _, Nat.zero_le _⟩) hE (fun H locs hE => ?_)
          refine lv_istore (lv' := [(4, .int x10013), (0, .ref (ad 0)), (1, .int a1), (2, .int a2), (3, .int a3)]) hx hb dX8_where_51 hl (by decide) rfl (fun ls hl => ?_)
          refine lv_iload hx hb dX8_where_53 (lv_at hl 0 rfl) ?_
          refine lv_if_lt (tgt := 67) hx hb dX8_where_55 (by decide) (fun c10015 => ?_) (fun c10015 => ?_)
          · have h := zif c10015 h
            refine zr_ldc S qc_X8_176 dX8_where_67 ?_
            exact zr_iret S hE hr hlk h dX8_where_69
          · have h := zif' c10015 h
            refine lv_aload_n hx hb dX8_where_58 rfl (lv_at hl 1 rfl) ?_
            refine zr_getA S hK hE zcl_X8 (zm_0 w10014) 0 (Nat.le_of_ble_eq_true rfl) (q := 1) rfl qf_X8_9 dX8_where_59 ?_
            refine lv_iconst (v := 1) hx hb dX8_where_62 (by decide) ?_
            obtain ⟨x10016, ex10016, h⟩ := zbdE h
            refine zr_iald S hK hE (zm_1 w10014) dX8_where_63 ex10016 ?_
            refine lv_if_ne (tgt := 70) hx hb dX8_where_64 (by decide) (fun c10017 => ?_) (fun c10017 => ?_)
            · have h := zif' c10017 h
              refine lv_iload_n hx hb dX8_where_70 rfl (lv_at hl 4 rfl) ?_
              refine lv_if_ne (tgt := 79) hx hb dX8_where_71 (by decide) (fun c10018 => ?_) (fun c10018 => ?_)
              · have h := zif' c10018 h
                refine lv_aload_n hx hb dX8_where_79 rfl (lv_at hl 1 rfl) ?_
                refine lv_iload hx hb dX8_where_80 (lv_at hl 0 rfl) ?_
                refine lv_iload_n hx hb dX8_where_82 rfl (lv_at hl 3 rfl) ?_
                obtain ⟨x10019, w10020, ew10020, h⟩ := zbd2E h
                refine zr_i (zr_runV (As := [.int x10013, .int a2]) S hX hE (kX8_riskAt l D tc lo ad fr zq x10013 a2 w10014 x10019 w10020 ew10020) zyX8_riskAt qm_X8_194 zcl_X8 rfl (zm_0 w10014) ⟨rfl, rfl⟩ ⟨Nat.le_of_ble_eq_true rfl, Nat.le_of_ble_eq_true rfl⟩ rfl hl.1 rfl (Nat.le_of_ble_eq_true rfl) dX8_where_83 ⟨Nat.zero_le _, Nat.zero_le _⟩) hE (fun H locs hE => ?_)
                exact zr_iret S hE hr hlk h dX8_where_86
              · have h := zif c10018 h
                refine lv_iload hx hb dX8_where_74 (lv_at hl 0 rfl) ?_
                refine lv_goto (tgt := 86) hx hb dX8_where_76 (by decide) ?_
                exact zr_iret S hE hr hlk h dX8_where_86
            · have h := zif c10017 h
              refine zr_ldc S qc_X8_176 dX8_where_67 ?_
              exact zr_iret S hE hr hlk h dX8_where_69
        · have h := zif' c10011 h
          refine zr_ldc S qc_X8_200 dX8_where_38 ?_
          exact zr_iret S hE hr hlk h dX8_where_40
      · have h := zif c10009 h
        refine zr_ldc S qc_X8_97 dX8_where_26 ?_
        exact zr_iret S hE hr hlk h dX8_where_28
set_option maxHeartbeats 4000000 in
set_option maxRecDepth 100000 in
theorem kX8_why (l : Launch) (D : va_G) (tc : Nat → ClassId) (lo : Nat) (ad : Nat → Nat) (fr : va_W) (zq : zz_Q) (a1 : Int32) (w : zz_W) (r : Int32) (w_ : zz_W) (h : fX8_why a1 w = some (r, w_)) : zMi l yX8_why cX8_why 3 (some .int) { frames := 1, cells := 0, slots := 0, locals := 22 } D tc lo ad zshM znnM fr zq [.ref (ad 0), .int a1] w r w_ := by
  refine zr_entry (by decide) (Nat.le_of_ble_eq_true rfl) fun p e s m args below meth c ls S hX hr hlk hE hl => ?_
  have S : CallFix p m c cX8_why 3 s args (Cond.code yX8_why cX8_why 3 (some .int) :: zw_tb) RX8 := S
  have hx := S.1
  have hb := S.2.1
  have hK := hX.2.1
  have hl : lv_has ls 3 [(0, .ref (ad 0)), (1, .int a1)] := hl
  unfold fX8_why at h
  refine lv_iload_n hx hb dX8_why_0 rfl (lv_at hl 1 rfl) ?_
  refine lv_iconst (v := 0) hx hb dX8_why_1 (by decide) ?_
  refine lv_iconst (v := 2) hx hb dX8_why_2 (by decide) ?_
  obtain ⟨x10001, w10002, ew10002, h⟩ := zbd2E h
  refine zr_i (zr_runS (As := [.int a1, .int 0, .int 2]) S hX hE (kX8_in l D tc lo ad fr zq a1 0 2 w x10001 w10002 ew10002) zyX8_in qm_X8_81 ⟨rfl, rfl⟩ ⟨Nat.le_of_ble_eq_true rfl, Nat.le_of_ble_eq_true rfl⟩ rfl hl.1 rfl (Nat.le_of_ble_eq_true rfl) dX8_why_3 ⟨Nat.zero_le _, Nat.zero_le _⟩) hE (fun H locs hE => ?_)
  refine lv_if_ne (tgt := 12) hx hb dX8_why_6 (by decide) (fun c10003 => ?_) (fun c10003 => ?_)
  · have h := zif' c10003 h
    refine lv_aload_n hx hb dX8_why_12 rfl (lv_at hl 0 rfl) ?_
    refine lv_iload_n hx hb dX8_why_13 rfl (lv_at hl 1 rfl) ?_
    obtain ⟨x10004, w10005, ew10005, h⟩ := zbd2E h
    refine zr_i (zr_runV (As := [.int a1]) S hX hE (kX8_counts l D tc lo ad fr zq a1 w10002 x10004 w10005 ew10005) zyX8_counts qm_X8_114 zcl_X8 rfl (zm_0 w10002) ⟨rfl, rfl⟩ ⟨Nat.le_of_ble_eq_true rfl, Nat.le_of_ble_eq_true rfl⟩ rfl hl.1 rfl (Nat.le_of_ble_eq_true rfl) dX8_why_14 ⟨Nat.zero_le _, Nat.zero_le _⟩) hE (fun H locs hE => ?_)
    refine lv_istore_n (lv' := [(2, .int x10004), (0, .ref (ad 0)), (1, .int a1)]) hx hb dX8_why_17 rfl hl (by decide) rfl (fun ls hl => ?_)
    refine lv_iload_n hx hb dX8_why_18 rfl (lv_at hl 0 rfl) ?_
    refine lv_if_ge (tgt := 27) hx hb dX8_why_19 (by decide) (fun c10006 => ?_) (fun c10006 => ?_)
    · have h := zif c10006 h
      refine lv_iload_n hx hb dX8_why_27 rfl (lv_at hl 0 rfl) ?_
      exact zr_iret S hE hr hlk h dX8_why_28
    · have h := zif' c10006 h
      refine zr_ldc S qc_X8_176 dX8_why_22 ?_
      refine lv_goto (tgt := 28) hx hb dX8_why_24 (by decide) ?_
      exact zr_iret S hE hr hlk h dX8_why_28
  · have h := zif c10003 h
    refine zr_ldc S qc_X8_97 dX8_why_9 ?_
    exact zr_iret S hE hr hlk h dX8_why_11
set_option maxHeartbeats 4000000 in
set_option maxRecDepth 100000 in
theorem kX8_worthiest (l : Launch) (D : va_G) (tc : Nat → ClassId) (lo : Nat) (ad : Nat → Nat) (fr : va_W) (zq : zz_Q) (a1 : Int32) (a2 : Int32) (a3 : Int32) (w : zz_W) (r : Int32) (w_ : zz_W) (h : fX8_worthiest a1 a2 a3 w = some (r, w_)) : zMi l yX8_worthiest cX8_worthiest 8 (some .int) { frames := 5, cells := 0, slots := 0, locals := 127 } D tc lo ad zshM znnM fr zq [.ref (ad 0), .int a1, .int a2, .int a3] w r w_ := by
  refine zr_entry (by decide) (Nat.le_of_ble_eq_true rfl) fun p e s m args below meth c ls S hX hr hlk hE hl => ?_
  have S : CallFix p m c cX8_worthiest 8 s args (Cond.code yX8_worthiest cX8_worthiest 8 (some .int) :: zw_tb) RX8 := S
  have hx := S.1
  have hb := S.2.1
  have hK := hX.2.1
  have hl : lv_has ls 8 [(0, .ref (ad 0)), (1, .int a1), (2, .int a2), (3, .int a3)] := hl
  unfold fX8_worthiest at h
  have L61 : ∀ (n : Nat) (l1 : Int32) (l2 : Int32) (l3 : Int32) (l4 : Int32) (l5 : Int32) (l6 : Int32) (w : zz_W) (ls : Array Slot) (H : Heap) (locs : List Loc), fX8_worthiest_61 a1 a2 a3 n l1 l2 l3 l4 l5 l6 w = some (r, w_) → lv_has ls 8 [(0, .ref (ad 0)), (1, .int l1), (2, .int l2), (3, .int l3), (4, .int l4), (5, .int l5), (6, .int l6)] → zE D tc lo ad zshM znnM fr w s.heap H locs → W p l e { frames := 5, cells := 0, slots := 0, locals := 127 } s m args below meth c H locs 0 0 (zZi D tc lo ad zshM znnM fr below args s r w_) (F0 m 61 ls []) := by
    intro n61
    induction n61 with
    | zero => intro l1 l2 l3 l4 l5 l6 w ls H locs h hl hE; rw [fX8_worthiest_61] at h; cases h
    | succ n61 ih61 =>
      intro l1 l2 l3 l4 l5 l6 w ls H locs h hl hE
      rw [fX8_worthiest_61] at h
      have J101 : ∀ (l1 : Int32) (l2 : Int32) (l3 : Int32) (l5 : Int32) (l6 : Int32) (l7 : Int32) (s0 : Int32) (w : zz_W) (ls : Array Slot) (H : Heap) (locs : List Loc), fX8_worthiest_101 a1 a2 a3 (fX8_worthiest_61 a1 a2 a3 n61) l1 l2 l3 l5 l6 l7 s0 w = some (r, w_) → lv_has ls 8 [(0, .ref (ad 0)), (1, .int l1), (2, .int l2), (3, .int l3), (5, .int l5), (6, .int l6), (7, .int l7)] → zE D tc lo ad zshM znnM fr w s.heap H locs → W p l e { frames := 5, cells := 0, slots := 0, locals := 127 } s m args below meth c H locs 0 0 (zZi D tc lo ad zshM znnM fr below args s r w_) (F0 m 101 ls [.int s0]) := by
        intro l1 l2 l3 l5 l6 l7 s0 w ls H locs h hl hE
        unfold fX8_worthiest_101 at h
        refine lv_istore (lv' := [(4, .int s0), (0, .ref (ad 0)), (1, .int l1), (2, .int l2), (3, .int l3), (5, .int l5), (6, .int l6), (7, .int l7)]) hx hb dX8_worthiest_101 hl (by decide) rfl (fun ls hl => ?_)
        refine lv_iload hx hb dX8_worthiest_103 (lv_at hl 7 rfl) ?_
        refine lv_iload hx hb dX8_worthiest_105 (lv_at hl 5 rfl) ?_
        refine lv_icmp_le (tgt := 115) hx hb dX8_worthiest_107 (by decide) (fun c57 => ?_) (fun c57 => ?_)
        · have h := zif c57 h
          refine lv_iload hx hb dX8_worthiest_115 (lv_at hl 5 rfl) ?_
          refine lv_istore (lv' := [(5, .int l5), (4, .int s0), (0, .ref (ad 0)), (1, .int l1), (2, .int l2), (3, .int l3), (6, .int l6), (7, .int l7)]) hx hb dX8_worthiest_117 hl (by decide) rfl (fun ls hl => ?_)
          obtain ⟨x58, ex58, h⟩ := zbdE h
          refine lv_iinc (v := x58) (lv' := [(6, .int x58), (5, .int l5), (4, .int s0), (0, .ref (ad 0)), (1, .int l1), (2, .int l2), (3, .int l3), (7, .int l7)]) hx hb dX8_worthiest_119 hl (k := 6) rfl (zinc (k := 1) (by decide) ex58) (by decide) rfl (fun ls hl => ?_)
          refine lv_goto (tgt := 61) hx hb dX8_worthiest_122 (by decide) ?_
          exact ih61 l1 l2 l3 s0 l5 x58 w ls _ _ h (lv_sub hl [3, 4, 5, 6, 2, 1, 0] rfl) hE
        · have h := zif' c57 h
          refine lv_iload hx hb dX8_worthiest_110 (lv_at hl 7 rfl) ?_
          refine lv_goto (tgt := 117) hx hb dX8_worthiest_112 (by decide) ?_
          refine lv_istore (lv' := [(5, .int l7), (4, .int s0), (0, .ref (ad 0)), (1, .int l1), (2, .int l2), (3, .int l3), (6, .int l6), (7, .int l7)]) hx hb dX8_worthiest_117 hl (by decide) rfl (fun ls hl => ?_)
          obtain ⟨x59, ex59, h⟩ := zbdE h
          refine lv_iinc (v := x59) (lv' := [(6, .int x59), (5, .int l7), (4, .int s0), (0, .ref (ad 0)), (1, .int l1), (2, .int l2), (3, .int l3), (7, .int l7)]) hx hb dX8_worthiest_119 hl (k := 6) rfl (zinc (k := 1) (by decide) ex59) (by decide) rfl (fun ls hl => ?_)
          refine lv_goto (tgt := 61) hx hb dX8_worthiest_122 (by decide) ?_
          exact ih61 l1 l2 l3 s0 l7 x59 w ls _ _ h (lv_sub hl [3, 4, 5, 6, 2, 1, 0] rfl) hE
      refine lv_iload hx hb dX8_worthiest_61 (lv_at hl 6 rfl) ?_
      refine lv_sipush (v := 144) hx hb dX8_worthiest_63 (by decide) ?_
      refine lv_icmp_ge (tgt := 125) hx hb dX8_worthiest_66 (by decide) (fun c60 => ?_) (fun c60 => ?_)
      · have h := zif c60 h
        refine lv_iload_n hx hb dX8_worthiest_125 rfl (lv_at hl 3 rfl) ?_
        refine lv_if_ne (tgt := 137) hx hb dX8_worthiest_126 (by decide) (fun c61 => ?_) (fun c61 => ?_)
        · have h := zif' c61 h
          refine lv_iload_n hx hb dX8_worthiest_137 rfl (lv_at hl 3 rfl) ?_
          refine lv_iconst (v := 1) hx hb dX8_worthiest_138 (by decide) ?_
          refine lv_icmp_ne (tgt := 150) hx hb dX8_worthiest_139 (by decide) (fun c62 => ?_) (fun c62 => ?_)
          · have h := zif' c62 h
            refine lv_iload hx hb dX8_worthiest_150 (lv_at hl 5 rfl) ?_
            exact zr_iret S hE hr hlk h dX8_worthiest_152
          · have h := zif c62 h
            refine lv_iload hx hb dX8_worthiest_142 (lv_at hl 4 rfl) ?_
            refine lv_bipush (v := 36) hx hb dX8_worthiest_144 (by decide) ?_
            obtain ⟨x63, ex63, h⟩ := zbdE h
            refine zr_irem hx hb dX8_worthiest_146 ex63 ?_
            refine lv_goto (tgt := 152) hx hb dX8_worthiest_147 (by decide) ?_
            exact zr_iret S hE hr hlk h dX8_worthiest_152
        · have h := zif c61 h
          refine lv_iload hx hb dX8_worthiest_129 (lv_at hl 4 rfl) ?_
          refine lv_bipush (v := 36) hx hb dX8_worthiest_131 (by decide) ?_
          obtain ⟨x64, ex64, h⟩ := zbdE h
          refine zr_idiv hx hb dX8_worthiest_133 ex64 ?_
          refine lv_goto (tgt := 152) hx hb dX8_worthiest_134 (by decide) ?_
          exact zr_iret S hE hr hlk h dX8_worthiest_152
      · have h := zif' c60 h
        refine lv_aload_n hx hb dX8_worthiest_69 rfl (lv_at hl 0 rfl) ?_
        refine lv_iload hx hb dX8_worthiest_70 (lv_at hl 6 rfl) ?_
        refine lv_bipush (v := 36) hx hb dX8_worthiest_72 (by decide) ?_
        obtain ⟨x65, ex65, h⟩ := zbdE h
        refine zr_idiv hx hb dX8_worthiest_74 ex65 ?_
        refine lv_iload hx hb dX8_worthiest_75 (lv_at hl 6 rfl) ?_
        refine lv_bipush (v := 36) hx hb dX8_worthiest_77 (by decide) ?_
        obtain ⟨x66, ex66, h⟩ := zbdE h
        refine zr_irem hx hb dX8_worthiest_79 ex66 ?_
        refine lv_iload_n hx hb dX8_worthiest_80 rfl (lv_at hl 1 rfl) ?_
        refine lv_iload_n hx hb dX8_worthiest_81 rfl (lv_at hl 2 rfl) ?_
        obtain ⟨x67, w68, ew68, h⟩ := zbd2E h
        refine zr_i (zr_runV (As := [.int x65, .int x66, .int l1, .int l2]) S hX hE (kX8_learnOf l D tc lo ad fr zq x65 x66 l1 l2 w x67 w68 ew68) zyX8_learnOf qm_X8_210 zcl_X8 rfl (zm_0 w) ⟨rfl, rfl⟩ ⟨Nat.le_of_ble_eq_true rfl, Nat.le_of_ble_eq_true rfl⟩ rfl hl.1 rfl (Nat.le_of_ble_eq_true rfl) dX8_worthiest_82 ⟨Nat.zero_le _, Nat.zero_le _⟩) hE (fun H locs hE => ?_)
        refine lv_istore (lv' := [(7, .int x67), (0, .ref (ad 0)), (1, .int l1), (2, .int l2), (3, .int l3), (4, .int l4), (5, .int l5), (6, .int l6)]) hx hb dX8_worthiest_85 hl (by decide) rfl (fun ls hl => ?_)
        refine lv_iload hx hb dX8_worthiest_87 (lv_at hl 0 rfl) ?_
        refine lv_iload hx hb dX8_worthiest_89 (lv_at hl 6 rfl) ?_
        refine lv_icmp_le (tgt := 99) hx hb dX8_worthiest_91 (by decide) (fun c69 => ?_) (fun c69 => ?_)
        · have h := zif c69 h
          refine lv_iload hx hb dX8_worthiest_99 (lv_at hl 5 rfl) ?_
          exact J101 l1 l2 l3 l5 l6 x67 l4 w68 ls _ _ h (lv_sub hl [1, 2, 3, 4, 6, 7, 0] rfl) hE
        · have h := zif' c69 h
          refine lv_iload hx hb dX8_worthiest_94 (lv_at hl 7 rfl) ?_
          refine lv_goto (tgt := 101) hx hb dX8_worthiest_96 (by decide) ?_
          exact J101 l1 l2 l3 l5 l6 x67 l6 w68 ls _ _ h (lv_sub hl [1, 2, 3, 4, 6, 7, 0] rfl) hE
  refine lv_iload_n hx hb dX8_worthiest_0 rfl (lv_at hl 1 rfl) ?_
  obtain ⟨x10001, w10002, ew10002, h⟩ := zbd2E h
  refine zr_i (zr_runS (As := [.int a1]) S hX hE (kX8_isSheet l D tc lo ad fr zq a1 w x10001 w10002 ew10002) zyX8_isSheet qm_X8_197 ⟨rfl, rfl⟩ ⟨Nat.le_of_ble_eq_true rfl, Nat.le_of_ble_eq_true rfl⟩ rfl hl.1 rfl (Nat.le_of_ble_eq_true rfl) dX8_worthiest_1 ⟨Nat.zero_le _, Nat.zero_le _⟩) hE (fun H locs hE => ?_)
  refine lv_if_eq (tgt := 26) hx hb dX8_worthiest_4 (by decide) (fun c10003 => ?_) (fun c10003 => ?_)
  · have h := zif c10003 h
    refine zr_ldc S qc_X8_97 dX8_worthiest_26 ?_
    exact zr_iret S hE hr hlk h dX8_worthiest_28
  · have h := zif' c10003 h
    refine lv_iload_n hx hb dX8_worthiest_7 rfl (lv_at hl 2 rfl) ?_
    refine lv_iconst (v := 1) hx hb dX8_worthiest_8 (by decide) ?_
    refine lv_bipush (v := 9) hx hb dX8_worthiest_9 (by decide) ?_
    obtain ⟨x10004, w10005, ew10005, h⟩ := zbd2E h
    refine zr_i (zr_runS (As := [.int a2, .int 1, .int 9]) S hX hE (kX8_in l D tc lo ad fr zq a2 1 9 w10002 x10004 w10005 ew10005) zyX8_in qm_X8_81 ⟨rfl, rfl⟩ ⟨Nat.le_of_ble_eq_true rfl, Nat.le_of_ble_eq_true rfl⟩ rfl hl.1 rfl (Nat.le_of_ble_eq_true rfl) dX8_worthiest_11 ⟨Nat.zero_le _, Nat.zero_le _⟩) hE (fun H locs hE => ?_)
    refine lv_if_eq (tgt := 26) hx hb dX8_worthiest_14 (by decide) (fun c10006 => ?_) (fun c10006 => ?_)
    · have h := zif c10006 h
      refine zr_ldc S qc_X8_97 dX8_worthiest_26 ?_
      exact zr_iret S hE hr hlk h dX8_worthiest_28
    · have h := zif' c10006 h
      refine lv_iload_n hx hb dX8_worthiest_17 rfl (lv_at hl 3 rfl) ?_
      refine lv_iconst (v := 0) hx hb dX8_worthiest_18 (by decide) ?_
      refine lv_iconst (v := 2) hx hb dX8_worthiest_19 (by decide) ?_
      obtain ⟨x10007, w10008, ew10008, h⟩ := zbd2E h
      refine zr_i (zr_runS (As := [.int a3, .int 0, .int 2]) S hX hE (kX8_in l D tc lo ad fr zq a3 0 2 w10005 x10007 w10008 ew10008) zyX8_in qm_X8_81 ⟨rfl, rfl⟩ ⟨Nat.le_of_ble_eq_true rfl, Nat.le_of_ble_eq_true rfl⟩ rfl hl.1 rfl (Nat.le_of_ble_eq_true rfl) dX8_worthiest_20 ⟨Nat.zero_le _, Nat.zero_le _⟩) hE (fun H locs hE => ?_)
      refine lv_if_ne (tgt := 29) hx hb dX8_worthiest_23 (by decide) (fun c10009 => ?_) (fun c10009 => ?_)
      · have h := zif' c10009 h
        refine lv_aload_n hx hb dX8_worthiest_29 rfl (lv_at hl 0 rfl) ?_
        refine zr_getA S hK hE zcl_X8 (zm_0 w10008) 25 (Nat.le_of_ble_eq_true rfl) (q := 15) rfl qf_X8_54 dX8_worthiest_30 ?_
        refine lv_iload_n hx hb dX8_worthiest_33 rfl (lv_at hl 1 rfl) ?_
        obtain ⟨x10010, ex10010, h⟩ := zbdE h
        refine zr_iald S hK hE (zm_15 w10008) dX8_worthiest_34 ex10010 ?_
        refine lv_if_ge (tgt := 41) hx hb dX8_worthiest_35 (by decide) (fun c10011 => ?_) (fun c10011 => ?_)
        · have h := zif c10011 h
          refine lv_aload_n hx hb dX8_worthiest_41 rfl (lv_at hl 0 rfl) ?_
          refine lv_iload_n hx hb dX8_worthiest_42 rfl (lv_at hl 1 rfl) ?_
          obtain ⟨x10012, w10013, ew10013, h⟩ := zbd2E h
          refine zr_i (zr_runV (As := [.int a1]) S hX hE (kX8_isWished l D tc lo ad fr zq a1 w10008 x10012 w10013 ew10013) zyX8_isWished qm_X8_207 zcl_X8 rfl (zm_0 w10008) ⟨rfl, rfl⟩ ⟨Nat.le_of_ble_eq_true rfl, Nat.le_of_ble_eq_true rfl⟩ rfl hl.1 rfl (Nat.le_of_ble_eq_true rfl) dX8_worthiest_43 ⟨Nat.zero_le _, Nat.zero_le _⟩) hE (fun H locs hE => ?_)
          refine lv_if_ne (tgt := 52) hx hb dX8_worthiest_46 (by decide) (fun c10014 => ?_) (fun c10014 => ?_)
          · have h := zif' c10014 h
            refine lv_iconst (v := 0) hx hb dX8_worthiest_52 (by decide) ?_
            refine lv_istore (lv' := [(4, .int 0), (0, .ref (ad 0)), (1, .int a1), (2, .int a2), (3, .int a3)]) hx hb dX8_worthiest_53 hl (by decide) rfl (fun ls hl => ?_)
            refine lv_iconst (v := (-1)) hx hb dX8_worthiest_55 (by decide) ?_
            obtain ⟨x10015, ex10015, h⟩ := zbdE h
            refine zr_topi ex10015 ?_
            refine lv_istore (lv' := [(5, .int x10015), (4, .int 0), (0, .ref (ad 0)), (1, .int a1), (2, .int a2), (3, .int a3)]) hx hb dX8_worthiest_56 hl (by decide) rfl (fun ls hl => ?_)
            refine lv_iconst (v := 0) hx hb dX8_worthiest_58 (by decide) ?_
            refine lv_istore (lv' := [(6, .int 0), (5, .int x10015), (4, .int 0), (0, .ref (ad 0)), (1, .int a1), (2, .int a2), (3, .int a3)]) hx hb dX8_worthiest_59 hl (by decide) rfl (fun ls hl => ?_)
            exact L61 zfuel a1 a2 a3 0 x10015 0 w10013 ls _ _ h (lv_sub hl [3, 4, 5, 6, 2, 1, 0] rfl) hE
          · have h := zif c10014 h
            refine zr_ldc S qc_X8_176 dX8_worthiest_49 ?_
            exact zr_iret S hE hr hlk h dX8_worthiest_51
        · have h := zif' c10011 h
          refine zr_ldc S qc_X8_200 dX8_worthiest_38 ?_
          exact zr_iret S hE hr hlk h dX8_worthiest_40
      · have h := zif c10009 h
        refine zr_ldc S qc_X8_97 dX8_worthiest_26 ?_
        exact zr_iret S hE hr hlk h dX8_worthiest_28
