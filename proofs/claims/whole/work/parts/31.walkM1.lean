set_option maxHeartbeats 4000000 in
set_option maxRecDepth 100000 in
theorem kX8_behind (l : Launch) (D : va_G) (tc : Nat → ClassId) (lo : Nat) (ad : Nat → Nat) (fr : va_W) (zq : zz_Q) (a1 : Int32) (a2 : Int32) (w : zz_W) (r : Int32) (w_ : zz_W) (h : fX8_behind a1 a2 w = some (r, w_)) : zMi l yX8_behind cX8_behind 4 (some .int) { frames := 6, cells := 0, slots := 0, locals := 141 } D tc lo ad zshM znnM fr zq [.ref (ad 0), .int a1, .int a2] w r w_ := by
  refine zr_entry (by decide) (Nat.le_of_ble_eq_true rfl) fun p e s m args below meth c ls S hX hr hlk hE hl => ?_
  have S : CallFix p m c cX8_behind 4 s args (Cond.code yX8_behind cX8_behind 4 (some .int) :: zw_tb) RX8 := S
  have hx := S.1
  have hb := S.2.1
  have hK := hX.2.1
  have hl : lv_has ls 4 [(0, .ref (ad 0)), (1, .int a1), (2, .int a2)] := hl
  unfold fX8_behind at h
  have J93 : ∀ (s0 : Int32) (w : zz_W) (ls : Array Slot) (H : Heap) (locs : List Loc), fX8_behind_93 a1 a2 s0 w = some (r, w_) → lv_has ls 4 [(0, .ref (ad 0))] → zE D tc lo ad zshM znnM fr w s.heap H locs → W p l e { frames := 6, cells := 0, slots := 0, locals := 141 } s m args below meth c H locs 0 0 (zZi D tc lo ad zshM znnM fr below args s r w_) (F0 m 93 ls [.int s0]) := by
    intro s0 w ls H locs h hl hE
    unfold fX8_behind_93 at h
    refine lv_istore_n (lv' := [(3, .int s0), (0, .ref (ad 0))]) hx hb dX8_behind_93 rfl hl (by decide) rfl (fun ls hl => ?_)
    refine lv_aload_n hx hb dX8_behind_94 rfl (lv_at hl 1 rfl) ?_
    obtain ⟨w45, ew45, h⟩ := zbdE h
    refine zr_v (zr_runV (As := []) S hX hE (kX8_putsBack l D tc lo ad fr zq w w45 ew45) zyX8_putsBack qm_X8_219 zcl_X8 rfl (zm_0 w) ⟨rfl, rfl⟩ ⟨Nat.le_of_ble_eq_true rfl, Nat.le_of_ble_eq_true rfl⟩ rfl hl.1 rfl (Nat.le_of_ble_eq_true rfl) dX8_behind_95 ⟨Nat.zero_le _, Nat.zero_le _⟩) hE (fun H locs hE => ?_)
    refine lv_iload_n hx hb dX8_behind_98 rfl (lv_at hl 0 rfl) ?_
    exact zr_iret S hE hr hlk h dX8_behind_99
  have J32 : ∀ (l1 : Int32) (l2 : Int32) (w : zz_W) (ls : Array Slot) (H : Heap) (locs : List Loc), fX8_behind_32 a1 a2 l1 l2 w = some (r, w_) → lv_has ls 4 [(0, .ref (ad 0)), (1, .int l1), (2, .int l2)] → zE D tc lo ad zshM znnM fr w s.heap H locs → W p l e { frames := 6, cells := 0, slots := 0, locals := 141 } s m args below meth c H locs 0 0 (zZi D tc lo ad zshM znnM fr below args s r w_) (F0 m 32 ls []) := by
    intro l1 l2 w ls H locs h hl hE
    unfold fX8_behind_32 at h
    refine lv_aload_n hx hb dX8_behind_32 rfl (lv_at hl 0 rfl) ?_
    obtain ⟨w46, ew46, h⟩ := zbdE h
    refine zr_v (zr_runV (As := []) S hX hE (kX8_thinks l D tc lo ad fr zq w w46 ew46) zyX8_thinks qm_X8_216 zcl_X8 rfl (zm_0 w) ⟨rfl, rfl⟩ ⟨Nat.le_of_ble_eq_true rfl, Nat.le_of_ble_eq_true rfl⟩ rfl hl.1 rfl (Nat.le_of_ble_eq_true rfl) dX8_behind_33 ⟨Nat.zero_le _, Nat.zero_le _⟩) hE (fun H locs hE => ?_)
    refine lv_aload_n hx hb dX8_behind_36 rfl (lv_at hl 0 rfl) ?_
    refine lv_iload_n hx hb dX8_behind_37 rfl (lv_at hl 1 rfl) ?_
    obtain ⟨w47, ew47, h⟩ := zbdE h
    refine zr_v (zr_runV (As := [.int l1]) S hX hE (kX8_goesOn l D tc lo ad fr zq l1 w46 w47 ew47) zyX8_goesOn qm_X8_168 zcl_X8 rfl (zm_0 w46) ⟨rfl, rfl⟩ ⟨Nat.le_of_ble_eq_true rfl, Nat.le_of_ble_eq_true rfl⟩ rfl hl.1 rfl (Nat.le_of_ble_eq_true rfl) dX8_behind_38 ⟨Nat.zero_le _, Nat.zero_le _⟩) hE (fun H locs hE => ?_)
    refine lv_iload_n hx hb dX8_behind_41 rfl (lv_at hl 2 rfl) ?_
    refine lv_if_ne (tgt := 55) hx hb dX8_behind_42 (by decide) (fun c48 => ?_) (fun c48 => ?_)
    · have h := zif' c48 h
      refine lv_iload_n hx hb dX8_behind_55 rfl (lv_at hl 2 rfl) ?_
      refine lv_iconst (v := 1) hx hb dX8_behind_56 (by decide) ?_
      refine lv_icmp_ne (tgt := 70) hx hb dX8_behind_57 (by decide) (fun c49 => ?_) (fun c49 => ?_)
      · have h := zif' c49 h
        refine lv_iload_n hx hb dX8_behind_70 rfl (lv_at hl 2 rfl) ?_
        refine lv_iconst (v := 2) hx hb dX8_behind_71 (by decide) ?_
        refine lv_icmp_ne (tgt := 85) hx hb dX8_behind_72 (by decide) (fun c50 => ?_) (fun c50 => ?_)
        · have h := zif' c50 h
          refine lv_aload_n hx hb dX8_behind_85 rfl (lv_at hl 0 rfl) ?_
          refine lv_iload_n hx hb dX8_behind_86 rfl (lv_at hl 2 rfl) ?_
          refine lv_iconst (v := 3) hx hb dX8_behind_87 (by decide) ?_
          refine lv_isub hx hb dX8_behind_88 ?_
          refine lv_iconst (v := 4) hx hb dX8_behind_89 (by decide) ?_
          obtain ⟨x51, w52, ew52, h⟩ := zbd2E h
          refine zr_i (zr_runV (As := [.int (l2 - 3), .int 4]) S hX hE (kX8_of l D tc lo ad fr zq (l2 - 3) 4 w47 x51 w52 ew52) zyX8_of qm_X8_103 zcl_X8 rfl (zm_0 w47) ⟨rfl, rfl⟩ ⟨Nat.le_of_ble_eq_true rfl, Nat.le_of_ble_eq_true rfl⟩ rfl hl.1 rfl (Nat.le_of_ble_eq_true rfl) dX8_behind_90 ⟨Nat.zero_le _, Nat.zero_le _⟩) hE (fun H locs hE => ?_)
          exact J93 x51 w52 ls _ _ h (lv_sub hl [0] rfl) hE
        · have h := zif c50 h
          refine lv_aload_n hx hb dX8_behind_75 rfl (lv_at hl 0 rfl) ?_
          obtain ⟨x53, w54, ew54, h⟩ := zbd2E h
          refine zr_i (zr_runV (As := []) S hX hE (kX8_greatest l D tc lo ad fr zq w47 x53 w54 ew54) zyX8_greatest qm_X8_177 zcl_X8 rfl (zm_0 w47) ⟨rfl, rfl⟩ ⟨Nat.le_of_ble_eq_true rfl, Nat.le_of_ble_eq_true rfl⟩ rfl hl.1 rfl (Nat.le_of_ble_eq_true rfl) dX8_behind_76 ⟨Nat.zero_le _, Nat.zero_le _⟩) hE (fun H locs hE => ?_)
          obtain ⟨x55, w56, ew56, h⟩ := zbd2E h
          refine zr_i (zr_runS (As := [.int x53]) S hX hE (kX8_orNothing l D tc lo ad fr zq x53 w54 x55 w56 ew56) zyX8_orNothing qm_X8_180 ⟨rfl, rfl⟩ ⟨Nat.le_of_ble_eq_true rfl, Nat.le_of_ble_eq_true rfl⟩ rfl hl.1 rfl (Nat.le_of_ble_eq_true rfl) dX8_behind_79 ⟨Nat.zero_le _, Nat.zero_le _⟩) hE (fun H locs hE => ?_)
          refine lv_goto (tgt := 93) hx hb dX8_behind_82 (by decide) ?_
          exact J93 x55 w56 ls _ _ h (lv_sub hl [0] rfl) hE
      · have h := zif c49 h
        refine lv_aload_n hx hb dX8_behind_60 rfl (lv_at hl 0 rfl) ?_
        refine zr_getA S hK hE zcl_X8 (zm_0 w47) 0 (Nat.le_of_ble_eq_true rfl) (q := 1) rfl qf_X8_9 dX8_behind_61 ?_
        refine lv_bipush (v := 9) hx hb dX8_behind_64 (by decide) ?_
        obtain ⟨x57, ex57, h⟩ := zbdE h
        refine zr_iald S hK hE (zm_1 w47) dX8_behind_66 ex57 ?_
        refine lv_goto (tgt := 93) hx hb dX8_behind_67 (by decide) ?_
        exact J93 x57 w47 ls _ _ h (lv_sub hl [0] rfl) hE
    · have h := zif c48 h
      refine lv_aload_n hx hb dX8_behind_45 rfl (lv_at hl 0 rfl) ?_
      refine zr_getA S hK hE zcl_X8 (zm_0 w47) 0 (Nat.le_of_ble_eq_true rfl) (q := 1) rfl qf_X8_9 dX8_behind_46 ?_
      refine lv_bipush (v := 10) hx hb dX8_behind_49 (by decide) ?_
      obtain ⟨x58, ex58, h⟩ := zbdE h
      refine zr_iald S hK hE (zm_1 w47) dX8_behind_51 ex58 ?_
      refine lv_goto (tgt := 93) hx hb dX8_behind_52 (by decide) ?_
      exact J93 x58 w47 ls _ _ h (lv_sub hl [0] rfl) hE
  refine lv_iload_n hx hb dX8_behind_0 rfl (lv_at hl 1 rfl) ?_
  refine lv_iconst (v := 0) hx hb dX8_behind_1 (by decide) ?_
  refine lv_bipush (v := 100) hx hb dX8_behind_2 (by decide) ?_
  obtain ⟨x10001, w10002, ew10002, h⟩ := zbd2E h
  refine zr_i (zr_runS (As := [.int a1, .int 0, .int 100]) S hX hE (kX8_in l D tc lo ad fr zq a1 0 100 w x10001 w10002 ew10002) zyX8_in qm_X8_81 ⟨rfl, rfl⟩ ⟨Nat.le_of_ble_eq_true rfl, Nat.le_of_ble_eq_true rfl⟩ rfl hl.1 rfl (Nat.le_of_ble_eq_true rfl) dX8_behind_4 ⟨Nat.zero_le _, Nat.zero_le _⟩) hE (fun H locs hE => ?_)
  refine lv_if_eq (tgt := 29) hx hb dX8_behind_7 (by decide) (fun c10003 => ?_) (fun c10003 => ?_)
  · have h := zif c10003 h
    refine zr_ldc S qc_X8_97 dX8_behind_29 ?_
    exact zr_iret S hE hr hlk h dX8_behind_31
  · have h := zif' c10003 h
    refine lv_iload_n hx hb dX8_behind_10 rfl (lv_at hl 2 rfl) ?_
    refine lv_if_lt (tgt := 29) hx hb dX8_behind_11 (by decide) (fun c10004 => ?_) (fun c10004 => ?_)
    · have h := zif c10004 h
      refine zr_ldc S qc_X8_97 dX8_behind_29 ?_
      exact zr_iret S hE hr hlk h dX8_behind_31
    · have h := zif' c10004 h
      refine lv_iload_n hx hb dX8_behind_14 rfl (lv_at hl 2 rfl) ?_
      refine lv_iconst (v := 2) hx hb dX8_behind_15 (by decide) ?_
      refine lv_icmp_le (tgt := 32) hx hb dX8_behind_16 (by decide) (fun c10005 => ?_) (fun c10005 => ?_)
      · have h := zif c10005 h
        exact J32 a1 a2 w10002 ls _ _ h (lv_sub hl [0, 1, 2] rfl) hE
      · have h := zif' c10005 h
        refine lv_aload_n hx hb dX8_behind_19 rfl (lv_at hl 0 rfl) ?_
        refine lv_iload_n hx hb dX8_behind_20 rfl (lv_at hl 2 rfl) ?_
        refine lv_iconst (v := 3) hx hb dX8_behind_21 (by decide) ?_
        refine lv_isub hx hb dX8_behind_22 ?_
        obtain ⟨x10006, w10007, ew10007, h⟩ := zbd2E h
        refine zr_i (zr_runV (As := [.int (a2 - 3)]) S hX hE (kX8_isRun l D tc lo ad fr zq (a2 - 3) w10002 x10006 w10007 ew10007) zyX8_isRun qm_X8_121 zcl_X8 rfl (zm_0 w10002) ⟨rfl, rfl⟩ ⟨Nat.le_of_ble_eq_true rfl, Nat.le_of_ble_eq_true rfl⟩ rfl hl.1 rfl (Nat.le_of_ble_eq_true rfl) dX8_behind_23 ⟨Nat.zero_le _, Nat.zero_le _⟩) hE (fun H locs hE => ?_)
        refine lv_if_ne (tgt := 32) hx hb dX8_behind_26 (by decide) (fun c10008 => ?_) (fun c10008 => ?_)
        · have h := zif' c10008 h
          exact J32 a1 a2 w10007 ls _ _ h (lv_sub hl [0, 1, 2] rfl) hE
        · have h := zif c10008 h
          refine zr_ldc S qc_X8_97 dX8_behind_29 ?_
          exact zr_iret S hE hr hlk h dX8_behind_31
set_option maxHeartbeats 4000000 in
set_option maxRecDepth 100000 in
theorem kX8_build (l : Launch) (D : va_G) (tc : Nat → ClassId) (lo : Nat) (ad : Nat → Nat) (fr : va_W) (zq : zz_Q) (w : zz_W) (r : Int32) (w_ : zz_W) (h : fX8_build w = some (r, w_)) : zMi l yX8_build cX8_build 1 (some .int) { frames := 3, cells := 0, slots := 0, locals := 67 } D tc lo ad zshM znnM fr zq [.ref (ad 0)] w r w_ := by
  refine zr_entry (by decide) (Nat.le_of_ble_eq_true rfl) fun p e s m args below meth c ls S hX hr hlk hE hl => ?_
  have S : CallFix p m c cX8_build 1 s args (Cond.code yX8_build cX8_build 1 (some .int) :: zw_tb) RX8 := S
  have hx := S.1
  have hb := S.2.1
  have hK := hX.2.1
  have hl : lv_has ls 1 [(0, .ref (ad 0))] := hl
  unfold fX8_build at h
  refine lv_aload_n hx hb dX8_build_0 rfl (lv_at hl 0 rfl) ?_
  refine zr_getA S hK hE zcl_X8 (zm_0 w) 0 (Nat.le_of_ble_eq_true rfl) (q := 1) rfl qf_X8_9 dX8_build_1 ?_
  refine lv_iconst (v := 1) hx hb dX8_build_4 (by decide) ?_
  obtain ⟨x10001, ex10001, h⟩ := zbdE h
  refine zr_iald S hK hE (zm_1 w) dX8_build_5 ex10001 ?_
  refine lv_if_ne (tgt := 12) hx hb dX8_build_6 (by decide) (fun c10002 => ?_) (fun c10002 => ?_)
  · have h := zif' c10002 h
    refine lv_aload_n hx hb dX8_build_12 rfl (lv_at hl 0 rfl) ?_
    obtain ⟨w10003, ew10003, h⟩ := zbdE h
    refine zr_v (zr_runV (As := []) S hX hE (kX8_builds l D tc lo ad fr zq w w10003 ew10003) zyX8_builds qm_X8_155 zcl_X8 rfl (zm_0 w) ⟨rfl, rfl⟩ ⟨Nat.le_of_ble_eq_true rfl, Nat.le_of_ble_eq_true rfl⟩ rfl hl.1 rfl (Nat.le_of_ble_eq_true rfl) dX8_build_13 ⟨Nat.zero_le _, Nat.zero_le _⟩) hE (fun H locs hE => ?_)
    refine lv_aload_n hx hb dX8_build_16 rfl (lv_at hl 0 rfl) ?_
    refine zr_getA S hK hE zcl_X8 (zm_0 w10003) 0 (Nat.le_of_ble_eq_true rfl) (q := 1) rfl qf_X8_9 dX8_build_17 ?_
    refine lv_iconst (v := 1) hx hb dX8_build_20 (by decide) ?_
    obtain ⟨x10004, ex10004, h⟩ := zbdE h
    refine zr_iald S hK hE (zm_1 w10003) dX8_build_21 ex10004 ?_
    exact zr_iret S hE hr hlk h dX8_build_22
  · have h := zif c10002 h
    refine zr_ldc S qc_X8_154 dX8_build_9 ?_
    exact zr_iret S hE hr hlk h dX8_build_11
set_option maxHeartbeats 4000000 in
set_option maxRecDepth 100000 in
theorem kX8_isCell (l : Launch) (D : va_G) (tc : Nat → ClassId) (lo : Nat) (ad : Nat → Nat) (fr : va_W) (zq : zz_Q) (a1 : Int32) (w : zz_W) (r : Int32) (w_ : zz_W) (h : fX8_isCell a1 w = some (r, w_)) : zMi l yX8_isCell cX8_isCell 1 (some .boolean) { frames := 1, cells := 0, slots := 0, locals := 22 } D tc lo ad zshM znnM fr zq [.int a1] w r w_ := by
  refine zr_entry (by decide) (Nat.le_of_ble_eq_true rfl) fun p e s m args below meth c ls S hX hr hlk hE hl => ?_
  have S : CallFix p m c cX8_isCell 1 s args (Cond.code yX8_isCell cX8_isCell 1 (some .boolean) :: zw_tb) RX8 := S
  have hx := S.1
  have hb := S.2.1
  have hK := hX.2.1
  have hl : lv_has ls 1 [(0, .int a1)] := hl
  unfold fX8_isCell at h
  refine lv_iload_n hx hb dX8_isCell_0 rfl (lv_at hl 0 rfl) ?_
  refine lv_iconst (v := 0) hx hb dX8_isCell_1 (by decide) ?_
  refine lv_bipush (v := 35) hx hb dX8_isCell_2 (by decide) ?_
  obtain ⟨x10001, w10002, ew10002, h⟩ := zbd2E h
  refine zr_i (zr_runS (As := [.int a1, .int 0, .int 35]) S hX hE (kX8_in l D tc lo ad fr zq a1 0 35 w x10001 w10002 ew10002) zyX8_in qm_X8_81 ⟨rfl, rfl⟩ ⟨Nat.le_of_ble_eq_true rfl, Nat.le_of_ble_eq_true rfl⟩ rfl hl.1 rfl (Nat.le_of_ble_eq_true rfl) dX8_isCell_4 ⟨Nat.zero_le _, Nat.zero_le _⟩) hE (fun H locs hE => ?_)
  obtain ⟨x10003, ex10003, h⟩ := zbdE h
  obtain ⟨ezx10003, enx10003⟩ := zboo_in ex10003
  refine zr_topi (congrArg some ezx10003) ?_
  exact zr_zret S hE hr hlk enx10003 h dX8_isCell_7
set_option maxHeartbeats 4000000 in
set_option maxRecDepth 100000 in
theorem kX8_chance (l : Launch) (D : va_G) (tc : Nat → ClassId) (lo : Nat) (ad : Nat → Nat) (fr : va_W) (zq : zz_Q) (a1 : Int32) (w : zz_W) (r : Int32) (w_ : zz_W) (h : fX8_chance a1 w = some (r, w_)) : zMi l yX8_chance cX8_chance 5 (some .int) { frames := 2, cells := 0, slots := 0, locals := 47 } D tc lo ad zshM znnM fr zq [.ref (ad 0), .int a1] w r w_ := by
  refine zr_entry (by decide) (Nat.le_of_ble_eq_true rfl) fun p e s m args below meth c ls S hX hr hlk hE hl => ?_
  have S : CallFix p m c cX8_chance 5 s args (Cond.code yX8_chance cX8_chance 5 (some .int) :: zw_tb) RX8 := S
  have hx := S.1
  have hb := S.2.1
  have hK := hX.2.1
  have hl : lv_has ls 5 [(0, .ref (ad 0)), (1, .int a1)] := hl
  unfold fX8_chance at h
  have L27 : ∀ (n : Nat) (l1 : Int32) (l2 : Int64) (l4 : Int32) (w : zz_W) (ls : Array Slot) (H : Heap) (locs : List Loc), fX8_chance_27 a1 n l1 l2 l4 w = some (r, w_) → lv_has ls 5 [(0, .ref (ad 0)), (1, .int l1), (2, .long l2), (4, .int l4)] → zE D tc lo ad zshM znnM fr w s.heap H locs → W p l e { frames := 2, cells := 0, slots := 0, locals := 47 } s m args below meth c H locs 0 0 (zZi D tc lo ad zshM znnM fr below args s r w_) (F0 m 27 ls []) := by
    intro n27
    induction n27 with
    | zero => intro l1 l2 l4 w ls H locs h hl hE; rw [fX8_chance_27] at h; cases h
    | succ n27 ih27 =>
      intro l1 l2 l4 w ls H locs h hl hE
      rw [fX8_chance_27] at h
      refine lv_iload hx hb dX8_chance_27 (lv_at hl 3 rfl) ?_
      refine lv_aload_n hx hb dX8_chance_29 rfl (lv_at hl 0 rfl) ?_
      refine zr_getA S hK hE zcl_X8 (zm_0 w) 0 (Nat.le_of_ble_eq_true rfl) (q := 1) rfl qf_X8_9 dX8_chance_30 ?_
      refine lv_iconst (v := 1) hx hb dX8_chance_33 (by decide) ?_
      obtain ⟨x39, ex39, h⟩ := zbdE h
      refine zr_iald S hK hE (zm_1 w) dX8_chance_34 ex39 ?_
      refine lv_icmp_ge (tgt := 69) hx hb dX8_chance_35 (by decide) (fun c40 => ?_) (fun c40 => ?_)
      · have h := zif c40 h
        refine zr_ldc2 S qd_X8_174 dX8_chance_69 ?_
        refine lv_lload_n hx hb dX8_chance_72 rfl (lv_at hl 2 rfl) ?_
        refine lv_lmul hx hb dX8_chance_73 ?_
        refine lv_aload_n hx hb dX8_chance_74 rfl (lv_at hl 0 rfl) ?_
        refine lv_iconst (v := 4) hx hb dX8_chance_75 (by decide) ?_
        obtain ⟨x41, w42, ew42, h⟩ := zbd2E h
        refine zr_i (zr_runV (As := [.int 4]) S hX hE (kX8_sumOf l D tc lo ad fr zq 4 w x41 w42 ew42) zyX8_sumOf qm_X8_151 zcl_X8 rfl (zm_0 w) ⟨rfl, rfl⟩ ⟨Nat.le_of_ble_eq_true rfl, Nat.le_of_ble_eq_true rfl⟩ rfl hl.1 rfl (Nat.le_of_ble_eq_true rfl) dX8_chance_76 ⟨Nat.zero_le _, Nat.zero_le _⟩) hE (fun H locs hE => ?_)
        refine lv_i2l hx hb dX8_chance_79 rfl ?_
        obtain ⟨x43, ex43, h⟩ := zbdE h
        refine zr_ldiv hx hb dX8_chance_80 ex43 ?_
        refine lv_l2i hx hb dX8_chance_81 rfl ?_
        exact zr_iret S hE hr hlk h dX8_chance_82
      · have h := zif' c40 h
        refine lv_lload_n hx hb dX8_chance_38 rfl (lv_at hl 2 rfl) ?_
        refine lv_aload_n hx hb dX8_chance_39 rfl (lv_at hl 0 rfl) ?_
        refine lv_iload hx hb dX8_chance_40 (lv_at hl 3 rfl) ?_
        refine lv_iload_n hx hb dX8_chance_42 rfl (lv_at hl 1 rfl) ?_
        obtain ⟨x44, w45, ew45, h⟩ := zbd2E h
        refine zr_i (zr_runV (As := [.int l4, .int l1]) S hX hE (kX8_doesPass l D tc lo ad fr zq l4 l1 w x44 w45 ew45) zyX8_doesPass qm_X8_111 zcl_X8 rfl (zm_0 w) ⟨rfl, rfl⟩ ⟨Nat.le_of_ble_eq_true rfl, Nat.le_of_ble_eq_true rfl⟩ rfl hl.1 rfl (Nat.le_of_ble_eq_true rfl) dX8_chance_43 ⟨Nat.zero_le _, Nat.zero_le _⟩) hE (fun H locs hE => ?_)
        refine lv_if_eq (tgt := 60) hx hb dX8_chance_46 (by decide) (fun c46 => ?_) (fun c46 => ?_)
        · have h := zif c46 h
          refine lv_lconst (v := 0) hx hb dX8_chance_60 (by decide) ?_
          refine lv_ladd hx hb dX8_chance_61 ?_
          obtain ⟨x47, ex47, h⟩ := zbdE h
          refine zr_topl ex47 ?_
          refine lv_lstore_n (lv' := [(2, .long x47), (0, .ref (ad 0)), (1, .int l1), (4, .int l4)]) hx hb dX8_chance_62 rfl hl (by decide) rfl (fun ls hl => ?_)
          obtain ⟨x48, ex48, h⟩ := zbdE h
          refine lv_iinc (v := x48) (lv' := [(4, .int x48), (2, .long x47), (0, .ref (ad 0)), (1, .int l1)]) hx hb dX8_chance_63 hl (k := 3) rfl (zinc (k := 1) (by decide) ex48) (by decide) rfl (fun ls hl => ?_)
          refine lv_goto (tgt := 27) hx hb dX8_chance_66 (by decide) ?_
          exact ih27 l1 x47 x48 w45 ls _ _ h (lv_sub hl [2, 3, 1, 0] rfl) hE
        · have h := zif' c46 h
          refine lv_aload_n hx hb dX8_chance_49 rfl (lv_at hl 0 rfl) ?_
          refine lv_iload hx hb dX8_chance_50 (lv_at hl 3 rfl) ?_
          refine lv_iconst (v := 4) hx hb dX8_chance_52 (by decide) ?_
          obtain ⟨x49, w50, ew50, h⟩ := zbd2E h
          refine zr_i (zr_runV (As := [.int l4, .int 4]) S hX hE (kX8_of l D tc lo ad fr zq l4 4 w45 x49 w50 ew50) zyX8_of qm_X8_103 zcl_X8 rfl (zm_0 w45) ⟨rfl, rfl⟩ ⟨Nat.le_of_ble_eq_true rfl, Nat.le_of_ble_eq_true rfl⟩ rfl hl.1 rfl (Nat.le_of_ble_eq_true rfl) dX8_chance_53 ⟨Nat.zero_le _, Nat.zero_le _⟩) hE (fun H locs hE => ?_)
          refine lv_i2l hx hb dX8_chance_56 rfl ?_
          refine lv_goto (tgt := 61) hx hb dX8_chance_57 (by decide) ?_
          refine lv_ladd hx hb dX8_chance_61 ?_
          obtain ⟨x51, ex51, h⟩ := zbdE h
          refine zr_topl ex51 ?_
          refine lv_lstore_n (lv' := [(2, .long x51), (0, .ref (ad 0)), (1, .int l1), (4, .int l4)]) hx hb dX8_chance_62 rfl hl (by decide) rfl (fun ls hl => ?_)
          obtain ⟨x52, ex52, h⟩ := zbdE h
          refine lv_iinc (v := x52) (lv' := [(4, .int x52), (2, .long x51), (0, .ref (ad 0)), (1, .int l1)]) hx hb dX8_chance_63 hl (k := 3) rfl (zinc (k := 1) (by decide) ex52) (by decide) rfl (fun ls hl => ?_)
          refine lv_goto (tgt := 27) hx hb dX8_chance_66 (by decide) ?_
          exact ih27 l1 x51 x52 w50 ls _ _ h (lv_sub hl [2, 3, 1, 0] rfl) hE
  refine lv_iload_n hx hb dX8_chance_0 rfl (lv_at hl 1 rfl) ?_
  obtain ⟨x10001, w10002, ew10002, h⟩ := zbd2E h
  refine zr_i (zr_runS (As := [.int a1]) S hX hE (kX8_isCell l D tc lo ad fr zq a1 w x10001 w10002 ew10002) zyX8_isCell qm_X8_89 ⟨rfl, rfl⟩ ⟨Nat.le_of_ble_eq_true rfl, Nat.le_of_ble_eq_true rfl⟩ rfl hl.1 rfl (Nat.le_of_ble_eq_true rfl) dX8_chance_1 ⟨Nat.zero_le _, Nat.zero_le _⟩) hE (fun H locs hE => ?_)
  refine lv_if_ne (tgt := 10) hx hb dX8_chance_4 (by decide) (fun c10003 => ?_) (fun c10003 => ?_)
  · have h := zif' c10003 h
    refine lv_aload_n hx hb dX8_chance_10 rfl (lv_at hl 0 rfl) ?_
    refine zr_getA S hK hE zcl_X8 (zm_0 w10002) 0 (Nat.le_of_ble_eq_true rfl) (q := 1) rfl qf_X8_9 dX8_chance_11 ?_
    refine lv_iconst (v := 1) hx hb dX8_chance_14 (by decide) ?_
    obtain ⟨x10004, ex10004, h⟩ := zbdE h
    refine zr_iald S hK hE (zm_1 w10002) dX8_chance_15 ex10004 ?_
    refine lv_if_ne (tgt := 22) hx hb dX8_chance_16 (by decide) (fun c10005 => ?_) (fun c10005 => ?_)
    · have h := zif' c10005 h
      refine lv_lconst (v := 0) hx hb dX8_chance_22 (by decide) ?_
      refine lv_lstore_n (lv' := [(2, .long 0), (0, .ref (ad 0)), (1, .int a1)]) hx hb dX8_chance_23 rfl hl (by decide) rfl (fun ls hl => ?_)
      refine lv_iconst (v := 0) hx hb dX8_chance_24 (by decide) ?_
      refine lv_istore (lv' := [(4, .int 0), (2, .long 0), (0, .ref (ad 0)), (1, .int a1)]) hx hb dX8_chance_25 hl (by decide) rfl (fun ls hl => ?_)
      exact L27 zfuel a1 0 0 w10002 ls _ _ h (lv_sub hl [2, 3, 1, 0] rfl) hE
    · have h := zif c10005 h
      refine zr_ldc S qc_X8_176 dX8_chance_19 ?_
      exact zr_iret S hE hr hlk h dX8_chance_21
  · have h := zif c10003 h
    refine zr_ldc S qc_X8_97 dX8_chance_7 ?_
    exact zr_iret S hE hr hlk h dX8_chance_9
set_option maxHeartbeats 4000000 in
set_option maxRecDepth 100000 in
theorem kX8_check (l : Launch) (D : va_G) (tc : Nat → ClassId) (lo : Nat) (ad : Nat → Nat) (fr : va_W) (zq : zz_Q) (a1 : Int32) (w : zz_W) (r : Int32) (w_ : zz_W) (h : fX8_check a1 w = some (r, w_)) : zMi l yX8_check cX8_check 6 (some .int) { frames := 5, cells := 0, slots := 0, locals := 119 } D tc lo ad zshM znnM fr zq [.ref (ad 0), .int a1] w r w_ := by
  refine zr_entry (by decide) (Nat.le_of_ble_eq_true rfl) fun p e s m args below meth c ls S hX hr hlk hE hl => ?_
  have S : CallFix p m c cX8_check 6 s args (Cond.code yX8_check cX8_check 6 (some .int) :: zw_tb) RX8 := S
  have hx := S.1
  have hb := S.2.1
  have hK := hX.2.1
  have hl : lv_has ls 6 [(0, .ref (ad 0)), (1, .int a1)] := hl
  unfold fX8_check at h
  have J180 : ∀ (l2 : Int32) (l3 : Int32) (l4 : Int32) (w : zz_W) (ls : Array Slot) (H : Heap) (locs : List Loc), fX8_check_180 a1 l2 l3 l4 w = some (r, w_) → lv_has ls 6 [(0, .ref (ad 0)), (2, .int l2), (3, .int l3), (4, .int l4)] → zE D tc lo ad zshM znnM fr w s.heap H locs → W p l e { frames := 5, cells := 0, slots := 0, locals := 119 } s m args below meth c H locs 0 0 (zZi D tc lo ad zshM znnM fr below args s r w_) (F0 m 180 ls []) := by
    intro l2 l3 l4 w ls H locs h hl hE
    unfold fX8_check_180 at h
    refine lv_aload_n hx hb dX8_check_180 rfl (lv_at hl 0 rfl) ?_
    refine zr_getA S hK hE zcl_X8 (zm_0 w) 2 (Nat.le_of_ble_eq_true rfl) (q := 3) rfl qf_X8_16 dX8_check_181 ?_
    refine lv_aload_n hx hb dX8_check_184 rfl (lv_at hl 0 rfl) ?_
    refine zr_getA S hK hE zcl_X8 (zm_0 w) 0 (Nat.le_of_ble_eq_true rfl) (q := 1) rfl qf_X8_9 dX8_check_185 ?_
    obtain ⟨w77, ew77, h⟩ := zbdE h
    refine zr_v (zr_runS (As := [.ref (ad 3), .ref (ad 1)]) S hX hE (kX8_copyAll l D tc lo ad fr zq 3 1 w w77 ew77) zyX8_copyAll qm_X8_302 ⟨rfl, rfl⟩ ⟨Nat.le_of_ble_eq_true rfl, Nat.le_of_ble_eq_true rfl⟩ rfl hl.1 rfl (Nat.le_of_ble_eq_true rfl) dX8_check_188 ⟨Nat.zero_le _, Nat.zero_le _⟩) hE (fun H locs hE => ?_)
    refine lv_iload hx hb dX8_check_191 (lv_at hl 3 rfl) ?_
    refine lv_iload_n hx hb dX8_check_193 rfl (lv_at hl 1 rfl) ?_
    refine lv_icmp_ne (tgt := 207) hx hb dX8_check_194 (by decide) (fun c78 => ?_) (fun c78 => ?_)
    · have h := zif' c78 h
      refine lv_iconst (v := 1) hx hb dX8_check_207 (by decide) ?_
      refine lv_iload hx hb dX8_check_208 (lv_at hl 3 rfl) ?_
      refine lv_iadd hx hb dX8_check_210 ?_
      exact zr_iret S hE hr hlk h dX8_check_211
    · have h := zif c78 h
      refine lv_iload hx hb dX8_check_197 (lv_at hl 3 rfl) ?_
      refine lv_iload_n hx hb dX8_check_199 rfl (lv_at hl 2 rfl) ?_
      refine lv_icmp_ne (tgt := 207) hx hb dX8_check_200 (by decide) (fun c79 => ?_) (fun c79 => ?_)
      · have h := zif' c79 h
        refine lv_iconst (v := 1) hx hb dX8_check_207 (by decide) ?_
        refine lv_iload hx hb dX8_check_208 (lv_at hl 3 rfl) ?_
        refine lv_iadd hx hb dX8_check_210 ?_
        exact zr_iret S hE hr hlk h dX8_check_211
      · have h := zif c79 h
        refine lv_iconst (v := 0) hx hb dX8_check_203 (by decide) ?_
        refine lv_goto (tgt := 211) hx hb dX8_check_204 (by decide) ?_
        exact zr_iret S hE hr hlk h dX8_check_211
  have L79 : ∀ (n : Nat) (l2 : Int32) (l3 : Int32) (l4 : Int32) (l5 : Int32) (w : zz_W) (ls : Array Slot) (H : Heap) (locs : List Loc), fX8_check_79 a1 n l2 l3 l4 l5 w = some (r, w_) → lv_has ls 6 [(0, .ref (ad 0)), (2, .int l2), (3, .int l3), (4, .int l4), (5, .int l5)] → zE D tc lo ad zshM znnM fr w s.heap H locs → W p l e { frames := 5, cells := 0, slots := 0, locals := 119 } s m args below meth c H locs 0 0 (zZi D tc lo ad zshM znnM fr below args s r w_) (F0 m 79 ls []) := by
    intro n79
    induction n79 with
    | zero => intro l2 l3 l4 l5 w ls H locs h hl hE; rw [fX8_check_79] at h; cases h
    | succ n79 ih79 =>
      intro l2 l3 l4 l5 w ls H locs h hl hE
      rw [fX8_check_79] at h
      have J130 : ∀ (l2 : Int32) (l3 : Int32) (l5 : Int32) (s0 : Int32) (s1 : Int32) (w : zz_W) (ls : Array Slot) (H : Heap) (locs : List Loc), fX8_check_130 a1 (fX8_check_79 a1 n79) l2 l3 l5 s0 s1 w = some (r, w_) → lv_has ls 6 [(0, .ref (ad 0)), (2, .int l2), (3, .int l3), (5, .int l5)] → zE D tc lo ad zshM znnM fr w s.heap H locs → W p l e { frames := 5, cells := 0, slots := 0, locals := 119 } s m args below meth c H locs 0 0 (zZi D tc lo ad zshM znnM fr below args s r w_) (F0 m 130 ls [.int s1, .int s0]) := by
        intro l2 l3 l5 s0 s1 w ls H locs h hl hE
        unfold fX8_check_130 at h
        refine lv_iadd hx hb dX8_check_130 ?_
        obtain ⟨x80, ex80, h⟩ := zbdE h
        refine zr_topi ex80 ?_
        refine lv_istore (lv' := [(4, .int x80), (0, .ref (ad 0)), (2, .int l2), (3, .int l3), (5, .int l5)]) hx hb dX8_check_131 hl (by decide) rfl (fun ls hl => ?_)
        refine lv_iload hx hb dX8_check_133 (lv_at hl 0 rfl) ?_
        refine lv_iload hx hb dX8_check_135 (lv_at hl 0 rfl) ?_
        refine lv_iconst (v := 2) hx hb dX8_check_137 (by decide) ?_
        refine lv_iload hx hb dX8_check_138 (lv_at hl 4 rfl) ?_
        refine lv_imul hx hb dX8_check_140 ?_
        refine lv_iconst (v := 1) hx hb dX8_check_141 (by decide) ?_
        refine lv_iadd hx hb dX8_check_142 ?_
        refine lv_icmp_ne (tgt := 170) hx hb dX8_check_143 (by decide) (fun c81 => ?_) (fun c81 => ?_)
        · have h := zif' c81 h
          refine lv_iconst (v := 0) hx hb dX8_check_170 (by decide) ?_
          refine lv_iadd hx hb dX8_check_171 ?_
          obtain ⟨x82, ex82, h⟩ := zbdE h
          refine zr_topi ex82 ?_
          refine lv_istore (lv' := [(4, .int x82), (0, .ref (ad 0)), (2, .int l2), (3, .int l3), (5, .int l5)]) hx hb dX8_check_172 hl (by decide) rfl (fun ls hl => ?_)
          obtain ⟨x83, ex83, h⟩ := zbdE h
          refine lv_iinc (v := x83) (lv' := [(5, .int x83), (4, .int x82), (0, .ref (ad 0)), (2, .int l2), (3, .int l3)]) hx hb dX8_check_174 hl (k := 4) rfl (zinc (k := 1) (by decide) ex83) (by decide) rfl (fun ls hl => ?_)
          refine lv_goto (tgt := 79) hx hb dX8_check_177 (by decide) ?_
          exact ih79 l2 l3 x82 x83 w ls _ _ h (lv_sub hl [2, 3, 4, 1, 0] rfl) hE
        · have h := zif c81 h
          refine lv_iload hx hb dX8_check_146 (lv_at hl 0 rfl) ?_
          refine lv_iload_n hx hb dX8_check_148 rfl (lv_at hl 2 rfl) ?_
          refine lv_icmp_ge (tgt := 170) hx hb dX8_check_149 (by decide) (fun c84 => ?_) (fun c84 => ?_)
          · have h := zif c84 h
            refine lv_iconst (v := 0) hx hb dX8_check_170 (by decide) ?_
            refine lv_iadd hx hb dX8_check_171 ?_
            obtain ⟨x85, ex85, h⟩ := zbdE h
            refine zr_topi ex85 ?_
            refine lv_istore (lv' := [(4, .int x85), (0, .ref (ad 0)), (2, .int l2), (3, .int l3), (5, .int l5)]) hx hb dX8_check_172 hl (by decide) rfl (fun ls hl => ?_)
            obtain ⟨x86, ex86, h⟩ := zbdE h
            refine lv_iinc (v := x86) (lv' := [(5, .int x86), (4, .int x85), (0, .ref (ad 0)), (2, .int l2), (3, .int l3)]) hx hb dX8_check_174 hl (k := 4) rfl (zinc (k := 1) (by decide) ex86) (by decide) rfl (fun ls hl => ?_)
            refine lv_goto (tgt := 79) hx hb dX8_check_177 (by decide) ?_
            exact ih79 l2 l3 x85 x86 w ls _ _ h (lv_sub hl [2, 3, 4, 1, 0] rfl) hE
          · have h := zif' c84 h
            refine lv_aload_n hx hb dX8_check_152 rfl (lv_at hl 1 rfl) ?_
            refine zr_getA S hK hE zcl_X8 (zm_0 w) 33 (Nat.le_of_ble_eq_true rfl) (q := 23) rfl qf_X8_78 dX8_check_153 ?_
            refine lv_iload hx hb dX8_check_156 (lv_at hl 0 rfl) ?_
            obtain ⟨x87, ex87, h⟩ := zbdE h
            refine zr_iald S hK hE (zm_23 w) dX8_check_158 ex87 ?_
            refine lv_aload_n hx hb dX8_check_159 rfl (lv_at hl 1 rfl) ?_
            obtain ⟨x88, w89, ew89, h⟩ := zbd2E h
            refine zr_i (zr_runV (As := []) S hX hE (kX8_greatest l D tc lo ad fr zq w x88 w89 ew89) zyX8_greatest qm_X8_177 zcl_X8 rfl (zm_0 w) ⟨rfl, rfl⟩ ⟨Nat.le_of_ble_eq_true rfl, Nat.le_of_ble_eq_true rfl⟩ rfl hl.1 rfl (Nat.le_of_ble_eq_true rfl) dX8_check_160 ⟨Nat.zero_le _, Nat.zero_le _⟩) hE (fun H locs hE => ?_)
            refine lv_icmp_ne (tgt := 170) hx hb dX8_check_163 (by decide) (fun c90 => ?_) (fun c90 => ?_)
            · have h := zif' c90 h
              refine lv_iconst (v := 0) hx hb dX8_check_170 (by decide) ?_
              refine lv_iadd hx hb dX8_check_171 ?_
              obtain ⟨x91, ex91, h⟩ := zbdE h
              refine zr_topi ex91 ?_
              refine lv_istore (lv' := [(4, .int x91), (0, .ref (ad 0)), (2, .int l2), (3, .int l3), (5, .int l5)]) hx hb dX8_check_172 hl (by decide) rfl (fun ls hl => ?_)
              obtain ⟨x92, ex92, h⟩ := zbdE h
              refine lv_iinc (v := x92) (lv' := [(5, .int x92), (4, .int x91), (0, .ref (ad 0)), (2, .int l2), (3, .int l3)]) hx hb dX8_check_174 hl (k := 4) rfl (zinc (k := 1) (by decide) ex92) (by decide) rfl (fun ls hl => ?_)
              refine lv_goto (tgt := 79) hx hb dX8_check_177 (by decide) ?_
              exact ih79 l2 l3 x91 x92 w89 ls _ _ h (lv_sub hl [2, 3, 4, 1, 0] rfl) hE
            · have h := zif c90 h
              refine lv_iconst (v := 1) hx hb dX8_check_166 (by decide) ?_
              refine lv_goto (tgt := 171) hx hb dX8_check_167 (by decide) ?_
              refine lv_iadd hx hb dX8_check_171 ?_
              obtain ⟨x93, ex93, h⟩ := zbdE h
              refine zr_topi ex93 ?_
              refine lv_istore (lv' := [(4, .int x93), (0, .ref (ad 0)), (2, .int l2), (3, .int l3), (5, .int l5)]) hx hb dX8_check_172 hl (by decide) rfl (fun ls hl => ?_)
              obtain ⟨x94, ex94, h⟩ := zbdE h
              refine lv_iinc (v := x94) (lv' := [(5, .int x94), (4, .int x93), (0, .ref (ad 0)), (2, .int l2), (3, .int l3)]) hx hb dX8_check_174 hl (k := 4) rfl (zinc (k := 1) (by decide) ex94) (by decide) rfl (fun ls hl => ?_)
              refine lv_goto (tgt := 79) hx hb dX8_check_177 (by decide) ?_
              exact ih79 l2 l3 x93 x94 w89 ls _ _ h (lv_sub hl [2, 3, 4, 1, 0] rfl) hE
      have J129 : ∀ (l2 : Int32) (l3 : Int32) (l5 : Int32) (s0 : Int32) (w : zz_W) (ls : Array Slot) (H : Heap) (locs : List Loc), fX8_check_129 a1 (fX8_check_79 a1 n79) l2 l3 l5 s0 w = some (r, w_) → lv_has ls 6 [(0, .ref (ad 0)), (2, .int l2), (3, .int l3), (5, .int l5)] → zE D tc lo ad zshM znnM fr w s.heap H locs → W p l e { frames := 5, cells := 0, slots := 0, locals := 119 } s m args below meth c H locs 0 0 (zZi D tc lo ad zshM znnM fr below args s r w_) (F0 m 129 ls [.int s0]) := by
        intro l2 l3 l5 s0 w ls H locs h hl hE
        unfold fX8_check_129 at h
        refine lv_iconst (v := 0) hx hb dX8_check_129 (by decide) ?_
        exact J130 l2 l3 l5 s0 0 w ls _ _ h (lv_sub hl [0, 1, 2, 3] rfl) hE
      refine lv_iconst (v := 2) hx hb dX8_check_79 (by decide) ?_
      refine lv_iload hx hb dX8_check_80 (lv_at hl 4 rfl) ?_
      refine lv_imul hx hb dX8_check_82 ?_
      refine lv_iload_n hx hb dX8_check_83 rfl (lv_at hl 2 rfl) ?_
      refine lv_icmp_ge (tgt := 180) hx hb dX8_check_84 (by decide) (fun c95 => ?_) (fun c95 => ?_)
      · have h := zif c95 h
        exact J180 l2 l3 l4 w ls _ _ h (lv_sub hl [0, 1, 2, 3] rfl) hE
      · have h := zif' c95 h
        refine lv_iload hx hb dX8_check_87 (lv_at hl 3 rfl) ?_
        refine lv_iconst (v := 2) hx hb dX8_check_89 (by decide) ?_
        refine lv_iload hx hb dX8_check_90 (lv_at hl 4 rfl) ?_
        refine lv_imul hx hb dX8_check_92 ?_
        refine lv_icmp_ne (tgt := 180) hx hb dX8_check_93 (by decide) (fun c96 => ?_) (fun c96 => ?_)
        · have h := zif' c96 h
          exact J180 l2 l3 l4 w ls _ _ h (lv_sub hl [0, 1, 2, 3] rfl) hE
        · have h := zif c96 h
          refine lv_aload_n hx hb dX8_check_96 rfl (lv_at hl 0 rfl) ?_
          obtain ⟨w97, ew97, h⟩ := zbdE h
          refine zr_v (zr_runV (As := []) S hX hE (kX8_step l D tc lo ad fr zq w w97 ew97) zyX8_step qm_X8_165 zcl_X8 rfl (zm_0 w) ⟨rfl, rfl⟩ ⟨Nat.le_of_ble_eq_true rfl, Nat.le_of_ble_eq_true rfl⟩ rfl hl.1 rfl (Nat.le_of_ble_eq_true rfl) dX8_check_97 ⟨Nat.zero_le _, Nat.zero_le _⟩) hE (fun H locs hE => ?_)
          refine lv_iload hx hb dX8_check_100 (lv_at hl 3 rfl) ?_
          refine lv_iload hx hb dX8_check_102 (lv_at hl 3 rfl) ?_
          refine lv_iload_n hx hb dX8_check_104 rfl (lv_at hl 1 rfl) ?_
          refine lv_icmp_ge (tgt := 129) hx hb dX8_check_105 (by decide) (fun c98 => ?_) (fun c98 => ?_)
          · have h := zif c98 h
            exact J129 l2 l3 l5 l4 w97 ls _ _ h (lv_sub hl [0, 1, 2, 4] rfl) hE
          · have h := zif' c98 h
            refine lv_aload_n hx hb dX8_check_108 rfl (lv_at hl 0 rfl) ?_
            refine zr_getA S hK hE zcl_X8 (zm_0 w97) 33 (Nat.le_of_ble_eq_true rfl) (q := 23) rfl qf_X8_78 dX8_check_109 ?_
            refine lv_iload hx hb dX8_check_112 (lv_at hl 3 rfl) ?_
            obtain ⟨x99, ex99, h⟩ := zbdE h
            refine zr_iald S hK hE (zm_23 w97) dX8_check_114 ex99 ?_
            refine lv_aload_n hx hb dX8_check_115 rfl (lv_at hl 0 rfl) ?_
            refine zr_getA S hK hE zcl_X8 (zm_0 w97) 0 (Nat.le_of_ble_eq_true rfl) (q := 1) rfl qf_X8_9 dX8_check_116 ?_
            refine lv_bipush (v := 10) hx hb dX8_check_119 (by decide) ?_
            obtain ⟨x100, ex100, h⟩ := zbdE h
            refine zr_iald S hK hE (zm_1 w97) dX8_check_121 ex100 ?_
            refine lv_icmp_ne (tgt := 129) hx hb dX8_check_122 (by decide) (fun c101 => ?_) (fun c101 => ?_)
            · have h := zif' c101 h
              exact J129 l2 l3 l5 l4 w97 ls _ _ h (lv_sub hl [0, 1, 2, 4] rfl) hE
            · have h := zif c101 h
              refine lv_iconst (v := 1) hx hb dX8_check_125 (by decide) ?_
              refine lv_goto (tgt := 130) hx hb dX8_check_126 (by decide) ?_
              exact J130 l2 l3 l5 l4 1 w97 ls _ _ h (lv_sub hl [0, 1, 2, 4] rfl) hE
  refine lv_aload_n hx hb dX8_check_0 rfl (lv_at hl 0 rfl) ?_
  obtain ⟨x10001, ex10001, h⟩ := zbdE h
  refine zr_getI S hK hE zcl_X8 (zm_0 w) 34 (Nat.le_of_ble_eq_true rfl) rfl qf_X8_295 dX8_check_1 ex10001 ?_
  refine lv_istore_n (lv' := [(2, .int x10001), (0, .ref (ad 0)), (1, .int a1)]) hx hb dX8_check_4 rfl hl (by decide) rfl (fun ls hl => ?_)
  refine lv_aload_n hx hb dX8_check_5 rfl (lv_at hl 1 rfl) ?_
  refine lv_iconst (v := 0) hx hb dX8_check_6 (by decide) ?_
  obtain ⟨w10002, ew10002, h⟩ := zbdE h
  refine zr_putI S hK hE zcl_X8 (zm_0 w) 34 (Nat.le_of_ble_eq_true rfl) rfl rfl rfl qf_X8_295 dX8_check_7 ew10002 (fun H locs hE => ?_)
  refine lv_iload_n hx hb dX8_check_10 rfl (lv_at hl 2 rfl) ?_
  refine lv_iconst (v := 1) hx hb dX8_check_11 (by decide) ?_
  refine lv_bipush (v := 30) hx hb dX8_check_12 (by decide) ?_
  obtain ⟨x10003, w10004, ew10004, h⟩ := zbd2E h
  refine zr_i (zr_runS (As := [.int a1, .int 1, .int 30]) S hX hE (kX8_in l D tc lo ad fr zq a1 1 30 w10002 x10003 w10004 ew10004) zyX8_in qm_X8_81 ⟨rfl, rfl⟩ ⟨Nat.le_of_ble_eq_true rfl, Nat.le_of_ble_eq_true rfl⟩ rfl hl.1 rfl (Nat.le_of_ble_eq_true rfl) dX8_check_14 ⟨Nat.zero_le _, Nat.zero_le _⟩) hE (fun H locs hE => ?_)
  refine lv_if_ne (tgt := 23) hx hb dX8_check_17 (by decide) (fun c10005 => ?_) (fun c10005 => ?_)
  · have h := zif' c10005 h
    refine lv_aload_n hx hb dX8_check_23 rfl (lv_at hl 1 rfl) ?_
    obtain ⟨x10006, ex10006, h⟩ := zbdE h
    refine zr_getI S hK hE zcl_X8 (zm_0 w10004) 3 (Nat.le_of_ble_eq_true rfl) rfl qf_X8_298 dX8_check_24 ex10006 ?_
    refine lv_if_ne (tgt := 33) hx hb dX8_check_27 (by decide) (fun c10007 => ?_) (fun c10007 => ?_)
    · have h := zif' c10007 h
      refine lv_aload_n hx hb dX8_check_33 rfl (lv_at hl 1 rfl) ?_
      refine zr_getA S hK hE zcl_X8 (zm_0 w10004) 0 (Nat.le_of_ble_eq_true rfl) (q := 1) rfl qf_X8_9 dX8_check_34 ?_
      refine lv_aload_n hx hb dX8_check_37 rfl (lv_at hl 1 rfl) ?_
      refine zr_getA S hK hE zcl_X8 (zm_0 w10004) 2 (Nat.le_of_ble_eq_true rfl) (q := 3) rfl qf_X8_16 dX8_check_38 ?_
      obtain ⟨w10008, ew10008, h⟩ := zbdE h
      refine zr_v (zr_runS (As := [.ref (ad 1), .ref (ad 3)]) S hX hE (kX8_copyAll l D tc lo ad fr zq 1 3 w10004 w10008 ew10008) zyX8_copyAll qm_X8_302 ⟨rfl, rfl⟩ ⟨Nat.le_of_ble_eq_true rfl, Nat.le_of_ble_eq_true rfl⟩ rfl hl.1 rfl (Nat.le_of_ble_eq_true rfl) dX8_check_41 ⟨Nat.zero_le _, Nat.zero_le _⟩) hE (fun H locs hE => ?_)
      refine lv_aload_n hx hb dX8_check_44 rfl (lv_at hl 1 rfl) ?_
      refine zr_getA S hK hE zcl_X8 (zm_0 w10008) 1 (Nat.le_of_ble_eq_true rfl) (q := 2) rfl qf_X8_13 dX8_check_45 ?_
      refine lv_aload_n hx hb dX8_check_48 rfl (lv_at hl 1 rfl) ?_
      refine zr_getA S hK hE zcl_X8 (zm_0 w10008) 0 (Nat.le_of_ble_eq_true rfl) (q := 1) rfl qf_X8_9 dX8_check_49 ?_
      obtain ⟨w10009, ew10009, h⟩ := zbdE h
      refine zr_v (zr_runS (As := [.ref (ad 2), .ref (ad 1)]) S hX hE (kX8_copyAll l D tc lo ad fr zq 2 1 w10008 w10009 ew10009) zyX8_copyAll qm_X8_302 ⟨rfl, rfl⟩ ⟨Nat.le_of_ble_eq_true rfl, Nat.le_of_ble_eq_true rfl⟩ rfl hl.1 rfl (Nat.le_of_ble_eq_true rfl) dX8_check_52 ⟨Nat.zero_le _, Nat.zero_le _⟩) hE (fun H locs hE => ?_)
      refine lv_iconst (v := 2) hx hb dX8_check_55 (by decide) ?_
      refine lv_sipush (v := 9999) hx hb dX8_check_56 (by decide) ?_
      refine lv_aload_n hx hb dX8_check_59 rfl (lv_at hl 1 rfl) ?_
      refine zr_getA S hK hE zcl_X8 (zm_0 w10009) 0 (Nat.le_of_ble_eq_true rfl) (q := 1) rfl qf_X8_9 dX8_check_60 ?_
      refine lv_iconst (v := 2) hx hb dX8_check_63 (by decide) ?_
      obtain ⟨x10010, ex10010, h⟩ := zbdE h
      refine zr_iald S hK hE (zm_1 w10009) dX8_check_64 ex10010 ?_
      refine lv_isub hx hb dX8_check_65 ?_
      refine lv_iconst (v := 0) hx hb dX8_check_66 (by decide) ?_
      refine lv_iload_n hx hb dX8_check_67 rfl (lv_at hl 2 rfl) ?_
      obtain ⟨x10011, w10012, ew10012, h⟩ := zbd2E h
      refine zr_i (zr_runS (As := [.int (9999 - x10010), .int 0, .int a1]) S hX hE (kX8_within l D tc lo ad fr zq (9999 - x10010) 0 a1 w10009 x10011 w10012 ew10012) zyX8_within qm_X8_107 ⟨rfl, rfl⟩ ⟨Nat.le_of_ble_eq_true rfl, Nat.le_of_ble_eq_true rfl⟩ rfl hl.1 rfl (Nat.le_of_ble_eq_true rfl) dX8_check_68 ⟨Nat.zero_le _, Nat.zero_le _⟩) hE (fun H locs hE => ?_)
      refine lv_imul hx hb dX8_check_71 ?_
      obtain ⟨x10013, ex10013, h⟩ := zbdE h
      refine zr_topi ex10013 ?_
      refine lv_istore_n (lv' := [(3, .int x10013), (2, .int x10001), (0, .ref (ad 0)), (1, .int a1)]) hx hb dX8_check_72 rfl hl (by decide) rfl (fun ls hl => ?_)
      refine lv_iconst (v := 0) hx hb dX8_check_73 (by decide) ?_
      refine lv_istore (lv' := [(4, .int 0), (3, .int x10013), (2, .int x10001), (0, .ref (ad 0)), (1, .int a1)]) hx hb dX8_check_74 hl (by decide) rfl (fun ls hl => ?_)
      refine lv_iconst (v := 0) hx hb dX8_check_76 (by decide) ?_
      refine lv_istore (lv' := [(5, .int 0), (4, .int 0), (3, .int x10013), (2, .int x10001), (0, .ref (ad 0)), (1, .int a1)]) hx hb dX8_check_77 hl (by decide) rfl (fun ls hl => ?_)
      exact L79 zfuel x10001 x10013 0 0 w10012 ls _ _ h (lv_sub hl [4, 3, 2, 1, 0] rfl) hE
    · have h := zif c10007 h
      refine zr_ldc S qc_X8_154 dX8_check_30 ?_
      exact zr_iret S hE hr hlk h dX8_check_32
  · have h := zif c10005 h
    refine zr_ldc S qc_X8_97 dX8_check_20 ?_
    exact zr_iret S hE hr hlk h dX8_check_22
set_option maxHeartbeats 4000000 in
set_option maxRecDepth 100000 in
theorem kX8_comes (l : Launch) (D : va_G) (tc : Nat → ClassId) (lo : Nat) (ad : Nat → Nat) (fr : va_W) (zq : zz_Q) (a1 : Int32) (a2 : Int32) (a3 : Int32) (a4 : Int32) (w : zz_W) (r : Int32) (w_ : zz_W) (h : fX8_comes a1 a2 a3 a4 w = some (r, w_)) : zMi l yX8_comes cX8_comes 6 (some .int) { frames := 1, cells := 0, slots := 0, locals := 23 } D tc lo ad zshM znnM fr zq [.ref (ad 0), .int a1, .int a2, .int a3, .int a4] w r w_ := by
  refine zr_entry (by decide) (Nat.le_of_ble_eq_true rfl) fun p e s m args below meth c ls S hX hr hlk hE hl => ?_
  have S : CallFix p m c cX8_comes 6 s args (Cond.code yX8_comes cX8_comes 6 (some .int) :: zw_tb) RX8 := S
  have hx := S.1
  have hb := S.2.1
  have hK := hX.2.1
  have hl : lv_has ls 6 [(0, .ref (ad 0)), (1, .int a1), (2, .int a2), (3, .int a3), (4, .int a4)] := hl
  unfold fX8_comes at h
  refine lv_aload_n hx hb dX8_comes_0 rfl (lv_at hl 0 rfl) ?_
  refine zr_getA S hK hE zcl_X8 (zm_0 w) 0 (Nat.le_of_ble_eq_true rfl) (q := 1) rfl qf_X8_9 dX8_comes_1 ?_
  refine lv_iconst (v := 1) hx hb dX8_comes_4 (by decide) ?_
  obtain ⟨x10001, ex10001, h⟩ := zbdE h
  refine zr_iald S hK hE (zm_1 w) dX8_comes_5 ex10001 ?_
  refine lv_istore (lv' := [(5, .int x10001), (0, .ref (ad 0)), (1, .int a1), (2, .int a2), (3, .int a3), (4, .int a4)]) hx hb dX8_comes_6 hl (by decide) rfl (fun ls hl => ?_)
  refine lv_aload_n hx hb dX8_comes_8 rfl (lv_at hl 1 rfl) ?_
  refine zr_getA S hK hE zcl_X8 (zm_0 w) 0 (Nat.le_of_ble_eq_true rfl) (q := 1) rfl qf_X8_9 dX8_comes_9 ?_
  refine lv_iconst (v := 1) hx hb dX8_comes_12 (by decide) ?_
  refine lv_dup2_11 hx hb dX8_comes_13 rfl rfl ?_
  obtain ⟨x10002, ex10002, h⟩ := zbdE h
  refine zr_iald S hK hE (zm_1 w) dX8_comes_14 ex10002 ?_
  refine lv_iconst (v := 1) hx hb dX8_comes_15 (by decide) ?_
  refine lv_iadd hx hb dX8_comes_16 ?_
  obtain ⟨w10003, ew10003, h⟩ := zbdE h
  refine zr_iast S hK hE (zm_1 w) dX8_comes_17 ew10003 (fun H locs hE => ?_)
  refine lv_aload_n hx hb dX8_comes_18 rfl (lv_at hl 1 rfl) ?_
  refine lv_iload hx hb dX8_comes_19 (lv_at hl 0 rfl) ?_
  refine lv_iconst (v := 0) hx hb dX8_comes_21 (by decide) ?_
  refine lv_iload_n hx hb dX8_comes_22 rfl (lv_at hl 2 rfl) ?_
  obtain ⟨w10004, ew10004, h⟩ := zbdE h
  refine zr_v (zr_runV (As := [.int x10001, .int 0, .int a1]) S hX hE (kX8_put l D tc lo ad fr zq x10001 0 a1 w10003 w10004 ew10004) zyX8_put qm_X8_85 zcl_X8 rfl (zm_0 w10003) ⟨rfl, rfl⟩ ⟨Nat.le_of_ble_eq_true rfl, Nat.le_of_ble_eq_true rfl⟩ rfl hl.1 rfl (Nat.le_of_ble_eq_true rfl) dX8_comes_23 ⟨Nat.zero_le _, Nat.zero_le _⟩) hE (fun H locs hE => ?_)
  refine lv_aload_n hx hb dX8_comes_26 rfl (lv_at hl 1 rfl) ?_
  refine lv_iload hx hb dX8_comes_27 (lv_at hl 0 rfl) ?_
  refine lv_iconst (v := 1) hx hb dX8_comes_29 (by decide) ?_
  refine lv_iload_n hx hb dX8_comes_30 rfl (lv_at hl 3 rfl) ?_
  obtain ⟨w10005, ew10005, h⟩ := zbdE h
  refine zr_v (zr_runV (As := [.int x10001, .int 1, .int a2]) S hX hE (kX8_put l D tc lo ad fr zq x10001 1 a2 w10004 w10005 ew10005) zyX8_put qm_X8_85 zcl_X8 rfl (zm_0 w10004) ⟨rfl, rfl⟩ ⟨Nat.le_of_ble_eq_true rfl, Nat.le_of_ble_eq_true rfl⟩ rfl hl.1 rfl (Nat.le_of_ble_eq_true rfl) dX8_comes_31 ⟨Nat.zero_le _, Nat.zero_le _⟩) hE (fun H locs hE => ?_)
  refine lv_aload_n hx hb dX8_comes_34 rfl (lv_at hl 1 rfl) ?_
  refine lv_iload hx hb dX8_comes_35 (lv_at hl 0 rfl) ?_
  refine lv_iconst (v := 2) hx hb dX8_comes_37 (by decide) ?_
  refine lv_iload_n hx hb dX8_comes_38 rfl (lv_at hl 4 rfl) ?_
  obtain ⟨w10006, ew10006, h⟩ := zbdE h
  refine zr_v (zr_runV (As := [.int x10001, .int 2, .int a3]) S hX hE (kX8_put l D tc lo ad fr zq x10001 2 a3 w10005 w10006 ew10006) zyX8_put qm_X8_85 zcl_X8 rfl (zm_0 w10005) ⟨rfl, rfl⟩ ⟨Nat.le_of_ble_eq_true rfl, Nat.le_of_ble_eq_true rfl⟩ rfl hl.1 rfl (Nat.le_of_ble_eq_true rfl) dX8_comes_39 ⟨Nat.zero_le _, Nat.zero_le _⟩) hE (fun H locs hE => ?_)
  refine lv_aload_n hx hb dX8_comes_42 rfl (lv_at hl 1 rfl) ?_
  refine lv_iload hx hb dX8_comes_43 (lv_at hl 0 rfl) ?_
  refine lv_iconst (v := 3) hx hb dX8_comes_45 (by decide) ?_
  refine lv_iload hx hb dX8_comes_46 (lv_at hl 5 rfl) ?_
  obtain ⟨w10007, ew10007, h⟩ := zbdE h
  refine zr_v (zr_runV (As := [.int x10001, .int 3, .int a4]) S hX hE (kX8_put l D tc lo ad fr zq x10001 3 a4 w10006 w10007 ew10007) zyX8_put qm_X8_85 zcl_X8 rfl (zm_0 w10006) ⟨rfl, rfl⟩ ⟨Nat.le_of_ble_eq_true rfl, Nat.le_of_ble_eq_true rfl⟩ rfl hl.1 rfl (Nat.le_of_ble_eq_true rfl) dX8_comes_48 ⟨Nat.zero_le _, Nat.zero_le _⟩) hE (fun H locs hE => ?_)
  refine lv_aload_n hx hb dX8_comes_51 rfl (lv_at hl 1 rfl) ?_
  refine lv_iload hx hb dX8_comes_52 (lv_at hl 0 rfl) ?_
  refine lv_iconst (v := 4) hx hb dX8_comes_54 (by decide) ?_
  refine lv_sipush (v := 1000) hx hb dX8_comes_55 (by decide) ?_
  refine lv_iload_n hx hb dX8_comes_58 rfl (lv_at hl 4 rfl) ?_
  refine lv_imul hx hb dX8_comes_59 ?_
  obtain ⟨w10008, ew10008, h⟩ := zbdE h
  refine zr_v (zr_runV (As := [.int x10001, .int 4, .int (1000 * a3)]) S hX hE (kX8_put l D tc lo ad fr zq x10001 4 (1000 * a3) w10007 w10008 ew10008) zyX8_put qm_X8_85 zcl_X8 rfl (zm_0 w10007) ⟨rfl, rfl⟩ ⟨Nat.le_of_ble_eq_true rfl, Nat.le_of_ble_eq_true rfl⟩ rfl hl.1 rfl (Nat.le_of_ble_eq_true rfl) dX8_comes_60 ⟨Nat.zero_le _, Nat.zero_le _⟩) hE (fun H locs hE => ?_)
  refine lv_iload hx hb dX8_comes_63 (lv_at hl 0 rfl) ?_
  exact zr_iret S hE hr hlk h dX8_comes_65
set_option maxHeartbeats 4000000 in
set_option maxRecDepth 100000 in
theorem kX8_isSheet (l : Launch) (D : va_G) (tc : Nat → ClassId) (lo : Nat) (ad : Nat → Nat) (fr : va_W) (zq : zz_Q) (a1 : Int32) (w : zz_W) (r : Int32) (w_ : zz_W) (h : fX8_isSheet a1 w = some (r, w_)) : zMi l yX8_isSheet cX8_isSheet 1 (some .boolean) { frames := 1, cells := 0, slots := 0, locals := 22 } D tc lo ad zshM znnM fr zq [.int a1] w r w_ := by
  refine zr_entry (by decide) (Nat.le_of_ble_eq_true rfl) fun p e s m args below meth c ls S hX hr hlk hE hl => ?_
  have S : CallFix p m c cX8_isSheet 1 s args (Cond.code yX8_isSheet cX8_isSheet 1 (some .boolean) :: zw_tb) RX8 := S
  have hx := S.1
  have hb := S.2.1
  have hK := hX.2.1
  have hl : lv_has ls 1 [(0, .int a1)] := hl
  unfold fX8_isSheet at h
  refine lv_iload_n hx hb dX8_isSheet_0 rfl (lv_at hl 0 rfl) ?_
  refine lv_iconst (v := 0) hx hb dX8_isSheet_1 (by decide) ?_
  refine lv_iconst (v := 3) hx hb dX8_isSheet_2 (by decide) ?_
  obtain ⟨x10001, w10002, ew10002, h⟩ := zbd2E h
  refine zr_i (zr_runS (As := [.int a1, .int 0, .int 3]) S hX hE (kX8_in l D tc lo ad fr zq a1 0 3 w x10001 w10002 ew10002) zyX8_in qm_X8_81 ⟨rfl, rfl⟩ ⟨Nat.le_of_ble_eq_true rfl, Nat.le_of_ble_eq_true rfl⟩ rfl hl.1 rfl (Nat.le_of_ble_eq_true rfl) dX8_isSheet_3 ⟨Nat.zero_le _, Nat.zero_le _⟩) hE (fun H locs hE => ?_)
  obtain ⟨x10003, ex10003, h⟩ := zbdE h
  obtain ⟨ezx10003, enx10003⟩ := zboo_in ex10003
  refine zr_topi (congrArg some ezx10003) ?_
  exact zr_zret S hE hr hlk enx10003 h dX8_isSheet_6
set_option maxHeartbeats 4000000 in
set_option maxRecDepth 100000 in
theorem kX8_copy (l : Launch) (D : va_G) (tc : Nat → ClassId) (lo : Nat) (ad : Nat → Nat) (fr : va_W) (zq : zz_Q) (a1 : Int32) (a2 : Int32) (a3 : Int32) (a4 : Int32) (a5 : Int32) (w : zz_W) (r : Int32) (w_ : zz_W) (h : fX8_copy a1 a2 a3 a4 a5 w = some (r, w_)) : zMi l yX8_copy cX8_copy 7 (some .int) { frames := 2, cells := 0, slots := 0, locals := 42 } D tc lo ad zshM znnM fr zq [.ref (ad 0), .int a1, .int a2, .int a3, .int a4, .int a5] w r w_ := by
  refine zr_entry (by decide) (Nat.le_of_ble_eq_true rfl) fun p e s m args below meth c ls S hX hr hlk hE hl => ?_
  have S : CallFix p m c cX8_copy 7 s args (Cond.code yX8_copy cX8_copy 7 (some .int) :: zw_tb) RX8 := S
  have hx := S.1
  have hb := S.2.1
  have hK := hX.2.1
  have hl : lv_has ls 7 [(0, .ref (ad 0)), (1, .int a1), (2, .int a2), (3, .int a3), (4, .int a4), (5, .int a5)] := hl
  unfold fX8_copy at h
  have L141 : ∀ (n : Nat) (l3 : Int32) (l4 : Int32) (l5 : Int32) (l6 : Int32) (w : zz_W) (ls : Array Slot) (H : Heap) (locs : List Loc), fX8_copy_141 a1 a2 a3 a4 a5 n l3 l4 l5 l6 w = some (r, w_) → lv_has ls 7 [(0, .ref (ad 0)), (3, .int l3), (4, .int l4), (5, .int l5), (6, .int l6)] → zE D tc lo ad zshM znnM fr w s.heap H locs → W p l e { frames := 2, cells := 0, slots := 0, locals := 42 } s m args below meth c H locs 0 0 (zZi D tc lo ad zshM znnM fr below args s r w_) (F0 m 141 ls []) := by
    intro n141
    induction n141 with
    | zero => intro l3 l4 l5 l6 w ls H locs h hl hE; rw [fX8_copy_141] at h; cases h
    | succ n141 ih141 =>
      intro l3 l4 l5 l6 w ls H locs h hl hE
      rw [fX8_copy_141] at h
      refine lv_iload hx hb dX8_copy_141 (lv_at hl 4 rfl) ?_
      refine lv_iload hx hb dX8_copy_143 (lv_at hl 3 rfl) ?_
      refine lv_icmp_ge (tgt := 176) hx hb dX8_copy_145 (by decide) (fun c57 => ?_) (fun c57 => ?_)
      · have h := zif c57 h
        refine lv_iload hx hb dX8_copy_176 (lv_at hl 3 rfl) ?_
        exact zr_iret S hE hr hlk h dX8_copy_178
      · have h := zif' c57 h
        refine lv_aload_n hx hb dX8_copy_148 rfl (lv_at hl 0 rfl) ?_
        refine zr_getA S hK hE zcl_X8 (zm_0 w) 27 (Nat.le_of_ble_eq_true rfl) (q := 17) rfl qf_X8_60 dX8_copy_149 ?_
        refine lv_bipush (v := 24) hx hb dX8_copy_152 (by decide) ?_
        refine lv_iload_n hx hb dX8_copy_154 rfl (lv_at hl 1 rfl) ?_
        refine lv_imul hx hb dX8_copy_155 ?_
        refine lv_iload hx hb dX8_copy_156 (lv_at hl 2 rfl) ?_
        refine lv_iadd hx hb dX8_copy_158 ?_
        refine lv_iload hx hb dX8_copy_159 (lv_at hl 4 rfl) ?_
        refine lv_iadd hx hb dX8_copy_161 ?_
        refine lv_aload_n hx hb dX8_copy_162 rfl (lv_at hl 0 rfl) ?_
        refine zr_getA S hK hE zcl_X8 (zm_0 w) 32 (Nat.le_of_ble_eq_true rfl) (q := 22) rfl qf_X8_75 dX8_copy_163 ?_
        refine lv_iload hx hb dX8_copy_166 (lv_at hl 4 rfl) ?_
        obtain ⟨x58, ex58, h⟩ := zbdE h
        refine zr_iald S hK hE (zm_22 w) dX8_copy_168 ex58 ?_
        obtain ⟨w59, ew59, h⟩ := zbdE h
        refine zr_iast S hK hE (zm_17 w) dX8_copy_169 ew59 (fun H locs hE => ?_)
        obtain ⟨x60, ex60, h⟩ := zbdE h
        refine lv_iinc (v := x60) (lv' := [(6, .int x60), (0, .ref (ad 0)), (3, .int l3), (4, .int l4), (5, .int l5)]) hx hb dX8_copy_170 hl (k := 4) rfl (zinc (k := 1) (by decide) ex60) (by decide) rfl (fun ls hl => ?_)
        refine lv_goto (tgt := 141) hx hb dX8_copy_173 (by decide) ?_
        exact ih141 l3 l4 l5 x60 w59 ls _ _ h (lv_sub hl [1, 2, 3, 4, 0] rfl) hE
  have L104 : ∀ (n : Nat) (l1 : Int32) (l2 : Int32) (l3 : Int32) (l4 : Int32) (l5 : Int32) (l6 : Int32) (w : zz_W) (ls : Array Slot) (H : Heap) (locs : List Loc), fX8_copy_104 a1 a2 a3 a4 a5 n l1 l2 l3 l4 l5 l6 w = some (r, w_) → lv_has ls 7 [(0, .ref (ad 0)), (1, .int l1), (2, .int l2), (3, .int l3), (4, .int l4), (5, .int l5), (6, .int l6)] → zE D tc lo ad zshM znnM fr w s.heap H locs → W p l e { frames := 2, cells := 0, slots := 0, locals := 42 } s m args below meth c H locs 0 0 (zZi D tc lo ad zshM znnM fr below args s r w_) (F0 m 104 ls []) := by
    intro n104
    induction n104 with
    | zero => intro l1 l2 l3 l4 l5 l6 w ls H locs h hl hE; rw [fX8_copy_104] at h; cases h
    | succ n104 ih104 =>
      intro l1 l2 l3 l4 l5 l6 w ls H locs h hl hE
      rw [fX8_copy_104] at h
      refine lv_iload hx hb dX8_copy_104 (lv_at hl 6 rfl) ?_
      refine lv_iload hx hb dX8_copy_106 (lv_at hl 5 rfl) ?_
      refine lv_icmp_ge (tgt := 138) hx hb dX8_copy_108 (by decide) (fun c61 => ?_) (fun c61 => ?_)
      · have h := zif c61 h
        refine lv_iconst (v := 0) hx hb dX8_copy_138 (by decide) ?_
        refine lv_istore (lv' := [(6, .int 0), (0, .ref (ad 0)), (1, .int l1), (2, .int l2), (3, .int l3), (4, .int l4), (5, .int l5)]) hx hb dX8_copy_139 hl (by decide) rfl (fun ls hl => ?_)
        exact L141 zfuel l3 l4 l5 0 w ls _ _ h (lv_sub hl [1, 4, 5, 6, 0] rfl) hE
      · have h := zif' c61 h
        refine lv_aload_n hx hb dX8_copy_111 rfl (lv_at hl 0 rfl) ?_
        refine zr_getA S hK hE zcl_X8 (zm_0 w) 32 (Nat.le_of_ble_eq_true rfl) (q := 22) rfl qf_X8_75 dX8_copy_112 ?_
        refine lv_iload hx hb dX8_copy_115 (lv_at hl 6 rfl) ?_
        refine lv_aload_n hx hb dX8_copy_117 rfl (lv_at hl 0 rfl) ?_
        refine zr_getA S hK hE zcl_X8 (zm_0 w) 27 (Nat.le_of_ble_eq_true rfl) (q := 17) rfl qf_X8_60 dX8_copy_118 ?_
        refine lv_bipush (v := 24) hx hb dX8_copy_121 (by decide) ?_
        refine lv_iload_n hx hb dX8_copy_123 rfl (lv_at hl 1 rfl) ?_
        refine lv_imul hx hb dX8_copy_124 ?_
        refine lv_iload_n hx hb dX8_copy_125 rfl (lv_at hl 2 rfl) ?_
        refine lv_iadd hx hb dX8_copy_126 ?_
        refine lv_iload hx hb dX8_copy_127 (lv_at hl 6 rfl) ?_
        refine lv_iadd hx hb dX8_copy_129 ?_
        obtain ⟨x62, ex62, h⟩ := zbdE h
        refine zr_iald S hK hE (zm_17 w) dX8_copy_130 ex62 ?_
        obtain ⟨w63, ew63, h⟩ := zbdE h
        refine zr_iast S hK hE (zm_22 w) dX8_copy_131 ew63 (fun H locs hE => ?_)
        obtain ⟨x64, ex64, h⟩ := zbdE h
        refine lv_iinc (v := x64) (lv' := [(6, .int x64), (0, .ref (ad 0)), (1, .int l1), (2, .int l2), (3, .int l3), (4, .int l4), (5, .int l5)]) hx hb dX8_copy_132 hl (k := 6) rfl (zinc (k := 1) (by decide) ex64) (by decide) rfl (fun ls hl => ?_)
        refine lv_goto (tgt := 104) hx hb dX8_copy_135 (by decide) ?_
        exact ih104 l1 l2 l3 l4 l5 x64 w63 ls _ _ h (lv_sub hl [1, 2, 3, 4, 5, 6, 0] rfl) hE
  refine lv_iload_n hx hb dX8_copy_0 rfl (lv_at hl 1 rfl) ?_
  obtain ⟨x10001, w10002, ew10002, h⟩ := zbd2E h
  refine zr_i (zr_runS (As := [.int a1]) S hX hE (kX8_isSheet l D tc lo ad fr zq a1 w x10001 w10002 ew10002) zyX8_isSheet qm_X8_197 ⟨rfl, rfl⟩ ⟨Nat.le_of_ble_eq_true rfl, Nat.le_of_ble_eq_true rfl⟩ rfl hl.1 rfl (Nat.le_of_ble_eq_true rfl) dX8_copy_1 ⟨Nat.zero_le _, Nat.zero_le _⟩) hE (fun H locs hE => ?_)
  refine lv_if_eq (tgt := 14) hx hb dX8_copy_4 (by decide) (fun c10003 => ?_) (fun c10003 => ?_)
  · have h := zif c10003 h
    refine zr_ldc S qc_X8_97 dX8_copy_14 ?_
    exact zr_iret S hE hr hlk h dX8_copy_16
  · have h := zif' c10003 h
    refine lv_iload_n hx hb dX8_copy_7 rfl (lv_at hl 3 rfl) ?_
    obtain ⟨x10004, w10005, ew10005, h⟩ := zbd2E h
    refine zr_i (zr_runS (As := [.int a3]) S hX hE (kX8_isSheet l D tc lo ad fr zq a3 w10002 x10004 w10005 ew10005) zyX8_isSheet qm_X8_197 ⟨rfl, rfl⟩ ⟨Nat.le_of_ble_eq_true rfl, Nat.le_of_ble_eq_true rfl⟩ rfl hl.1 rfl (Nat.le_of_ble_eq_true rfl) dX8_copy_8 ⟨Nat.zero_le _, Nat.zero_le _⟩) hE (fun H locs hE => ?_)
    refine lv_if_ne (tgt := 17) hx hb dX8_copy_11 (by decide) (fun c10006 => ?_) (fun c10006 => ?_)
    · have h := zif' c10006 h
      refine lv_aload_n hx hb dX8_copy_17 rfl (lv_at hl 0 rfl) ?_
      refine zr_getA S hK hE zcl_X8 (zm_0 w10005) 25 (Nat.le_of_ble_eq_true rfl) (q := 15) rfl qf_X8_54 dX8_copy_18 ?_
      refine lv_iload_n hx hb dX8_copy_21 rfl (lv_at hl 1 rfl) ?_
      obtain ⟨x10007, ex10007, h⟩ := zbdE h
      refine zr_iald S hK hE (zm_15 w10005) dX8_copy_22 ex10007 ?_
      refine lv_if_lt (tgt := 35) hx hb dX8_copy_23 (by decide) (fun c10008 => ?_) (fun c10008 => ?_)
      · have h := zif c10008 h
        refine zr_ldc S qc_X8_200 dX8_copy_35 ?_
        exact zr_iret S hE hr hlk h dX8_copy_37
      · have h := zif' c10008 h
        refine lv_aload_n hx hb dX8_copy_26 rfl (lv_at hl 0 rfl) ?_
        refine zr_getA S hK hE zcl_X8 (zm_0 w10005) 25 (Nat.le_of_ble_eq_true rfl) (q := 15) rfl qf_X8_54 dX8_copy_27 ?_
        refine lv_iload_n hx hb dX8_copy_30 rfl (lv_at hl 3 rfl) ?_
        obtain ⟨x10009, ex10009, h⟩ := zbdE h
        refine zr_iald S hK hE (zm_15 w10005) dX8_copy_31 ex10009 ?_
        refine lv_if_ge (tgt := 38) hx hb dX8_copy_32 (by decide) (fun c10010 => ?_) (fun c10010 => ?_)
        · have h := zif c10010 h
          refine lv_aload_n hx hb dX8_copy_38 rfl (lv_at hl 0 rfl) ?_
          refine zr_getA S hK hE zcl_X8 (zm_0 w10005) 25 (Nat.le_of_ble_eq_true rfl) (q := 15) rfl qf_X8_54 dX8_copy_39 ?_
          refine lv_iload_n hx hb dX8_copy_42 rfl (lv_at hl 1 rfl) ?_
          obtain ⟨x10011, ex10011, h⟩ := zbdE h
          refine zr_iald S hK hE (zm_15 w10005) dX8_copy_43 ex10011 ?_
          refine lv_aload_n hx hb dX8_copy_44 rfl (lv_at hl 0 rfl) ?_
          refine zr_getA S hK hE zcl_X8 (zm_0 w10005) 25 (Nat.le_of_ble_eq_true rfl) (q := 15) rfl qf_X8_54 dX8_copy_45 ?_
          refine lv_iload_n hx hb dX8_copy_48 rfl (lv_at hl 3 rfl) ?_
          obtain ⟨x10012, ex10012, h⟩ := zbdE h
          refine zr_iald S hK hE (zm_15 w10005) dX8_copy_49 ex10012 ?_
          refine lv_icmp_eq (tgt := 56) hx hb dX8_copy_50 (by decide) (fun c10013 => ?_) (fun c10013 => ?_)
          · have h := zif c10013 h
            refine lv_iload_n hx hb dX8_copy_56 rfl (lv_at hl 2 rfl) ?_
            refine lv_if_lt (tgt := 97) hx hb dX8_copy_57 (by decide) (fun c10014 => ?_) (fun c10014 => ?_)
            · have h := zif c10014 h
              refine zr_ldcw S qc_X8_290 dX8_copy_97 ?_
              exact zr_iret S hE hr hlk h dX8_copy_100
            · have h := zif' c10014 h
              refine lv_iload hx hb dX8_copy_60 (lv_at hl 4 rfl) ?_
              refine lv_if_lt (tgt := 97) hx hb dX8_copy_62 (by decide) (fun c10015 => ?_) (fun c10015 => ?_)
              · have h := zif c10015 h
                refine zr_ldcw S qc_X8_290 dX8_copy_97 ?_
                exact zr_iret S hE hr hlk h dX8_copy_100
              · have h := zif' c10015 h
                refine lv_iload hx hb dX8_copy_65 (lv_at hl 5 rfl) ?_
                refine lv_if_lt (tgt := 97) hx hb dX8_copy_67 (by decide) (fun c10016 => ?_) (fun c10016 => ?_)
                · have h := zif c10016 h
                  refine zr_ldcw S qc_X8_290 dX8_copy_97 ?_
                  exact zr_iret S hE hr hlk h dX8_copy_100
                · have h := zif' c10016 h
                  refine lv_iload_n hx hb dX8_copy_70 rfl (lv_at hl 2 rfl) ?_
                  refine lv_aload_n hx hb dX8_copy_71 rfl (lv_at hl 0 rfl) ?_
                  refine zr_getA S hK hE zcl_X8 (zm_0 w10005) 26 (Nat.le_of_ble_eq_true rfl) (q := 16) rfl qf_X8_57 dX8_copy_72 ?_
                  refine lv_iload_n hx hb dX8_copy_75 rfl (lv_at hl 1 rfl) ?_
                  obtain ⟨x10017, ex10017, h⟩ := zbdE h
                  refine zr_iald S hK hE (zm_16 w10005) dX8_copy_76 ex10017 ?_
                  refine lv_iload hx hb dX8_copy_77 (lv_at hl 5 rfl) ?_
                  refine lv_isub hx hb dX8_copy_79 ?_
                  refine lv_icmp_gt (tgt := 97) hx hb dX8_copy_80 (by decide) (fun c10018 => ?_) (fun c10018 => ?_)
                  · have h := zif c10018 h
                    refine zr_ldcw S qc_X8_290 dX8_copy_97 ?_
                    exact zr_iret S hE hr hlk h dX8_copy_100
                  · have h := zif' c10018 h
                    refine lv_iload hx hb dX8_copy_83 (lv_at hl 4 rfl) ?_
                    refine lv_aload_n hx hb dX8_copy_85 rfl (lv_at hl 0 rfl) ?_
                    refine zr_getA S hK hE zcl_X8 (zm_0 w10005) 26 (Nat.le_of_ble_eq_true rfl) (q := 16) rfl qf_X8_57 dX8_copy_86 ?_
                    refine lv_iload_n hx hb dX8_copy_89 rfl (lv_at hl 3 rfl) ?_
                    obtain ⟨x10019, ex10019, h⟩ := zbdE h
                    refine zr_iald S hK hE (zm_16 w10005) dX8_copy_90 ex10019 ?_
                    refine lv_iload hx hb dX8_copy_91 (lv_at hl 5 rfl) ?_
                    refine lv_isub hx hb dX8_copy_93 ?_
                    refine lv_icmp_le (tgt := 101) hx hb dX8_copy_94 (by decide) (fun c10020 => ?_) (fun c10020 => ?_)
                    · have h := zif c10020 h
                      refine lv_iconst (v := 0) hx hb dX8_copy_101 (by decide) ?_
                      refine lv_istore (lv' := [(6, .int 0), (0, .ref (ad 0)), (1, .int a1), (2, .int a2), (3, .int a3), (4, .int a4), (5, .int a5)]) hx hb dX8_copy_102 hl (by decide) rfl (fun ls hl => ?_)
                      exact L104 zfuel a1 a2 a3 a4 a5 0 w10005 ls _ _ h (lv_sub hl [1, 2, 3, 4, 5, 6, 0] rfl) hE
                    · have h := zif' c10020 h
                      refine zr_ldcw S qc_X8_290 dX8_copy_97 ?_
                      exact zr_iret S hE hr hlk h dX8_copy_100
          · have h := zif' c10013 h
            refine zr_ldc S qc_X8_136 dX8_copy_53 ?_
            exact zr_iret S hE hr hlk h dX8_copy_55
        · have h := zif' c10010 h
          refine zr_ldc S qc_X8_200 dX8_copy_35 ?_
          exact zr_iret S hE hr hlk h dX8_copy_37
    · have h := zif c10006 h
      refine zr_ldc S qc_X8_97 dX8_copy_14 ?_
      exact zr_iret S hE hr hlk h dX8_copy_16
set_option maxHeartbeats 4000000 in
set_option maxRecDepth 100000 in
theorem kX8_count (l : Launch) (D : va_G) (tc : Nat → ClassId) (lo : Nat) (ad : Nat → Nat) (fr : va_W) (zq : zz_Q) (a1 : Int32) (w : zz_W) (r : Int32) (w_ : zz_W) (h : fX8_count a1 w = some (r, w_)) : zMi l yX8_count cX8_count 2 (some .int) { frames := 0, cells := 0, slots := 0, locals := 0 } D tc lo ad zshM znnM fr zq [.ref (ad 0), .int a1] w r w_ := by
  refine zr_entry (by decide) (Nat.le_of_ble_eq_true rfl) fun p e s m args below meth c ls S hX hr hlk hE hl => ?_
  have S : CallFix p m c cX8_count 2 s args (Cond.code yX8_count cX8_count 2 (some .int) :: zw_tb) RX8 := S
  have hx := S.1
  have hb := S.2.1
  have hK := hX.2.1
  have hl : lv_has ls 2 [(0, .ref (ad 0)), (1, .int a1)] := hl
  unfold fX8_count at h
  refine lv_iload_n hx hb dX8_count_0 rfl (lv_at hl 1 rfl) ?_
  by_cases c10002 : a1 = 0
  · refine lv_tableIn (off := 47) (tgt := 48) hx hb dX8_count_1 (by rw [c10002]; decide) (by rw [c10002]; decide) (by rw [c10002]; decide) (by decide) ?_
    have h := zif c10002 h
    refine lv_aload_n hx hb dX8_count_48 rfl (lv_at hl 0 rfl) ?_
    refine zr_getA S hK hE zcl_X8 (zm_0 w) 0 (Nat.le_of_ble_eq_true rfl) (q := 1) rfl qf_X8_9 dX8_count_49 ?_
    refine lv_iconst (v := 1) hx hb dX8_count_52 (by decide) ?_
    obtain ⟨x10001, ex10001, h⟩ := zbdE h
    refine zr_iald S hK hE (zm_1 w) dX8_count_53 ex10001 ?_
    exact zr_iret S hE hr hlk h dX8_count_54
  have h := zif' c10002 h
  by_cases c10004 : a1 = 1
  · refine lv_tableIn (off := 54) (tgt := 55) hx hb dX8_count_1 (by rw [c10004]; decide) (by rw [c10004]; decide) (by rw [c10004]; decide) (by decide) ?_
    have h := zif c10004 h
    refine lv_aload_n hx hb dX8_count_55 rfl (lv_at hl 0 rfl) ?_
    refine zr_getA S hK hE zcl_X8 (zm_0 w) 0 (Nat.le_of_ble_eq_true rfl) (q := 1) rfl qf_X8_9 dX8_count_56 ?_
    refine lv_iconst (v := 2) hx hb dX8_count_59 (by decide) ?_
    obtain ⟨x10003, ex10003, h⟩ := zbdE h
    refine zr_iald S hK hE (zm_1 w) dX8_count_60 ex10003 ?_
    exact zr_iret S hE hr hlk h dX8_count_61
  have h := zif' c10004 h
  by_cases c10006 : a1 = 2
  · refine lv_tableIn (off := 61) (tgt := 62) hx hb dX8_count_1 (by rw [c10006]; decide) (by rw [c10006]; decide) (by rw [c10006]; decide) (by decide) ?_
    have h := zif c10006 h
    refine lv_aload_n hx hb dX8_count_62 rfl (lv_at hl 0 rfl) ?_
    refine zr_getA S hK hE zcl_X8 (zm_0 w) 0 (Nat.le_of_ble_eq_true rfl) (q := 1) rfl qf_X8_9 dX8_count_63 ?_
    refine lv_iconst (v := 3) hx hb dX8_count_66 (by decide) ?_
    obtain ⟨x10005, ex10005, h⟩ := zbdE h
    refine zr_iald S hK hE (zm_1 w) dX8_count_67 ex10005 ?_
    exact zr_iret S hE hr hlk h dX8_count_68
  have h := zif' c10006 h
  by_cases c10008 : a1 = 3
  · refine lv_tableIn (off := 68) (tgt := 69) hx hb dX8_count_1 (by rw [c10008]; decide) (by rw [c10008]; decide) (by rw [c10008]; decide) (by decide) ?_
    have h := zif c10008 h
    refine lv_aload_n hx hb dX8_count_69 rfl (lv_at hl 0 rfl) ?_
    refine zr_getA S hK hE zcl_X8 (zm_0 w) 0 (Nat.le_of_ble_eq_true rfl) (q := 1) rfl qf_X8_9 dX8_count_70 ?_
    refine lv_iconst (v := 4) hx hb dX8_count_73 (by decide) ?_
    obtain ⟨x10007, ex10007, h⟩ := zbdE h
    refine zr_iald S hK hE (zm_1 w) dX8_count_74 ex10007 ?_
    exact zr_iret S hE hr hlk h dX8_count_75
  have h := zif' c10008 h
  by_cases c10010 : a1 = 4
  · refine lv_tableIn (off := 75) (tgt := 76) hx hb dX8_count_1 (by rw [c10010]; decide) (by rw [c10010]; decide) (by rw [c10010]; decide) (by decide) ?_
    have h := zif c10010 h
    refine lv_aload_n hx hb dX8_count_76 rfl (lv_at hl 0 rfl) ?_
    refine zr_getA S hK hE zcl_X8 (zm_0 w) 0 (Nat.le_of_ble_eq_true rfl) (q := 1) rfl qf_X8_9 dX8_count_77 ?_
    refine lv_bipush (v := 13) hx hb dX8_count_80 (by decide) ?_
    obtain ⟨x10009, ex10009, h⟩ := zbdE h
    refine zr_iald S hK hE (zm_1 w) dX8_count_82 ex10009 ?_
    exact zr_iret S hE hr hlk h dX8_count_83
  have h := zif' c10010 h
  by_cases c10012 : a1 = 5
  · refine lv_tableIn (off := 83) (tgt := 84) hx hb dX8_count_1 (by rw [c10012]; decide) (by rw [c10012]; decide) (by rw [c10012]; decide) (by decide) ?_
    have h := zif c10012 h
    refine lv_aload_n hx hb dX8_count_84 rfl (lv_at hl 0 rfl) ?_
    obtain ⟨x10011, ex10011, h⟩ := zbdE h
    refine zr_getI S hK hE zcl_X8 (zm_0 w) 34 (Nat.le_of_ble_eq_true rfl) rfl qf_X8_295 dX8_count_85 ex10011 ?_
    exact zr_iret S hE hr hlk h dX8_count_88
  have h := zif' c10012 h
  by_cases c10014 : a1 = 6
  · refine lv_tableIn (off := 88) (tgt := 89) hx hb dX8_count_1 (by rw [c10014]; decide) (by rw [c10014]; decide) (by rw [c10014]; decide) (by decide) ?_
    have h := zif c10014 h
    refine lv_aload_n hx hb dX8_count_89 rfl (lv_at hl 0 rfl) ?_
    obtain ⟨x10013, ex10013, h⟩ := zbdE h
    refine zr_getI S hK hE zcl_X8 (zm_0 w) 8 (Nat.le_of_ble_eq_true rfl) rfl qf_X8_222 dX8_count_90 ex10013 ?_
    exact zr_iret S hE hr hlk h dX8_count_93
  have h := zif' c10014 h
  by_cases c10016 : a1 = 7
  · refine lv_tableIn (off := 93) (tgt := 94) hx hb dX8_count_1 (by rw [c10016]; decide) (by rw [c10016]; decide) (by rw [c10016]; decide) (by decide) ?_
    have h := zif c10016 h
    refine lv_aload_n hx hb dX8_count_94 rfl (lv_at hl 0 rfl) ?_
    refine zr_getA S hK hE zcl_X8 (zm_0 w) 0 (Nat.le_of_ble_eq_true rfl) (q := 1) rfl qf_X8_9 dX8_count_95 ?_
    refine lv_iconst (v := 0) hx hb dX8_count_98 (by decide) ?_
    obtain ⟨x10015, ex10015, h⟩ := zbdE h
    refine zr_iald S hK hE (zm_1 w) dX8_count_99 ex10015 ?_
    exact zr_iret S hE hr hlk h dX8_count_100
  have h := zif' c10016 h
  refine lv_tableOut (tgt := 101) hx hb dX8_count_1 (by have tc10002 := lv_neT c10002 (a := 0) (by decide); have tc10004 := lv_neT c10004 (a := 1) (by decide); have tc10006 := lv_neT c10006 (a := 2) (by decide); have tc10008 := lv_neT c10008 (a := 3) (by decide); have tc10010 := lv_neT c10010 (a := 4) (by decide); have tc10012 := lv_neT c10012 (a := 5) (by decide); have tc10014 := lv_neT c10014 (a := 6) (by decide); have tc10016 := lv_neT c10016 (a := 7) (by decide); omega) (by decide) ?_
  refine zr_ldc S qc_X8_97 dX8_count_101 ?_
  exact zr_iret S hE hr hlk h dX8_count_103
set_option maxHeartbeats 4000000 in
set_option maxRecDepth 100000 in
theorem kX8_counts (l : Launch) (D : va_G) (tc : Nat → ClassId) (lo : Nat) (ad : Nat → Nat) (fr : va_W) (zq : zz_Q) (a1 : Int32) (w : zz_W) (r : Int32) (w_ : zz_W) (h : fX8_counts a1 w = some (r, w_)) : zMi l yX8_counts cX8_counts 3 (some .int) { frames := 0, cells := 0, slots := 0, locals := 0 } D tc lo ad zshM znnM fr zq [.ref (ad 0), .int a1] w r w_ := by
  refine zr_entry (by decide) (Nat.le_of_ble_eq_true rfl) fun p e s m args below meth c ls S hX hr hlk hE hl => ?_
  have S : CallFix p m c cX8_counts 3 s args (Cond.code yX8_counts cX8_counts 3 (some .int) :: zw_tb) RX8 := S
  have hx := S.1
  have hb := S.2.1
  have hK := hX.2.1
  have hl : lv_has ls 3 [(0, .ref (ad 0)), (1, .int a1)] := hl
  unfold fX8_counts at h
  have L10 : ∀ (n : Nat) (l1 : Int32) (l2 : Int32) (w : zz_W) (ls : Array Slot) (H : Heap) (locs : List Loc), fX8_counts_10 a1 n l1 l2 w = some (r, w_) → lv_has ls 3 [(0, .ref (ad 0)), (1, .int l1), (2, .int l2)] → zE D tc lo ad zshM znnM fr w s.heap H locs → W p l e { frames := 0, cells := 0, slots := 0, locals := 0 } s m args below meth c H locs 0 0 (zZi D tc lo ad zshM znnM fr below args s r w_) (F0 m 10 ls []) := by
    intro n10
    induction n10 with
    | zero => intro l1 l2 w ls H locs h hl hE; rw [fX8_counts_10] at h; cases h
    | succ n10 ih10 =>
      intro l1 l2 w ls H locs h hl hE
      rw [fX8_counts_10] at h
      refine lv_iload_n hx hb dX8_counts_10 rfl (lv_at hl 2 rfl) ?_
      refine lv_if_lt (tgt := 41) hx hb dX8_counts_11 (by decide) (fun c15 => ?_) (fun c15 => ?_)
      · have h := zif c15 h
        refine lv_iconst (v := (-1)) hx hb dX8_counts_41 (by decide) ?_
        exact zr_iret S hE hr hlk h dX8_counts_42
      · have h := zif' c15 h
        refine lv_aload_n hx hb dX8_counts_14 rfl (lv_at hl 0 rfl) ?_
        refine zr_getA S hK hE zcl_X8 (zm_0 w) 0 (Nat.le_of_ble_eq_true rfl) (q := 1) rfl qf_X8_9 dX8_counts_15 ?_
        refine lv_bipush (v := 64) hx hb dX8_counts_18 (by decide) ?_
        refine lv_iconst (v := 2) hx hb dX8_counts_20 (by decide) ?_
        refine lv_iload_n hx hb dX8_counts_21 rfl (lv_at hl 2 rfl) ?_
        refine lv_imul hx hb dX8_counts_22 ?_
        refine lv_iadd hx hb dX8_counts_23 ?_
        obtain ⟨x16, ex16, h⟩ := zbdE h
        refine zr_iald S hK hE (zm_1 w) dX8_counts_24 ex16 ?_
        refine lv_sipush (v := 1000) hx hb dX8_counts_25 (by decide) ?_
        obtain ⟨x17, ex17, h⟩ := zbdE h
        refine zr_idiv hx hb dX8_counts_28 ex17 ?_
        refine lv_iload_n hx hb dX8_counts_29 rfl (lv_at hl 1 rfl) ?_
        refine lv_icmp_ne (tgt := 35) hx hb dX8_counts_30 (by decide) (fun c18 => ?_) (fun c18 => ?_)
        · have h := zif' c18 h
          obtain ⟨x19, ex19, h⟩ := zbdE h
          refine lv_iinc (v := x19) (lv' := [(2, .int x19), (0, .ref (ad 0)), (1, .int l1)]) hx hb dX8_counts_35 hl (k := 2) rfl (zinc (k := (-1)) (by decide) ex19) (by decide) rfl (fun ls hl => ?_)
          refine lv_goto (tgt := 10) hx hb dX8_counts_38 (by decide) ?_
          exact ih10 l1 x19 w ls _ _ h (lv_sub hl [1, 2, 0] rfl) hE
        · have h := zif c18 h
          refine lv_iload_n hx hb dX8_counts_33 rfl (lv_at hl 2 rfl) ?_
          exact zr_iret S hE hr hlk h dX8_counts_34
  refine lv_aload_n hx hb dX8_counts_0 rfl (lv_at hl 0 rfl) ?_
  refine zr_getA S hK hE zcl_X8 (zm_0 w) 0 (Nat.le_of_ble_eq_true rfl) (q := 1) rfl qf_X8_9 dX8_counts_1 ?_
  refine lv_bipush (v := 13) hx hb dX8_counts_4 (by decide) ?_
  obtain ⟨x10001, ex10001, h⟩ := zbdE h
  refine zr_iald S hK hE (zm_1 w) dX8_counts_6 ex10001 ?_
  refine lv_iconst (v := 1) hx hb dX8_counts_7 (by decide) ?_
  refine lv_isub hx hb dX8_counts_8 ?_
  obtain ⟨x10002, ex10002, h⟩ := zbdE h
  refine zr_topi ex10002 ?_
  refine lv_istore_n (lv' := [(2, .int x10002), (0, .ref (ad 0)), (1, .int a1)]) hx hb dX8_counts_9 rfl hl (by decide) rfl (fun ls hl => ?_)
  exact L10 zfuel a1 x10002 w ls _ _ h (lv_sub hl [1, 2, 0] rfl) hE
set_option maxHeartbeats 4000000 in
set_option maxRecDepth 100000 in
theorem kX8_deal (l : Launch) (D : va_G) (tc : Nat → ClassId) (lo : Nat) (ad : Nat → Nat) (fr : va_W) (zq : zz_Q) (a1 : Int32) (w : zz_W) (r : Int32) (w_ : zz_W) (h : fX8_deal a1 w = some (r, w_)) : zMi l yX8_deal cX8_deal 7 (some .int) { frames := 2, cells := 0, slots := 0, locals := 48 } D tc lo ad zshM znnM fr zq [.ref (ad 0), .int a1] w r w_ := by
  refine zr_entry (by decide) (Nat.le_of_ble_eq_true rfl) fun p e s m args below meth c ls S hX hr hlk hE hl => ?_
  have S : CallFix p m c cX8_deal 7 s args (Cond.code yX8_deal cX8_deal 7 (some .int) :: zw_tb) RX8 := S
  have hx := S.1
  have hb := S.2.1
  have hK := hX.2.1
  have hl : lv_has ls 7 [(0, .ref (ad 0)), (1, .int a1)] := hl
  unfold fX8_deal at h
  have L15 : ∀ (n : Nat) (l1 : Int32) (l2 : Int32) (w : zz_W) (ls : Array Slot) (H : Heap) (locs : List Loc), fX8_deal_15 a1 n l1 l2 w = some (r, w_) → lv_has ls 7 [(0, .ref (ad 0)), (1, .int l1), (2, .int l2)] → zE D tc lo ad zshM znnM fr w s.heap H locs → W p l e { frames := 2, cells := 0, slots := 0, locals := 48 } s m args below meth c H locs 0 0 (zZi D tc lo ad zshM znnM fr below args s r w_) (F0 m 15 ls []) := by
    intro n15
    induction n15 with
    | zero => intro l1 l2 w ls H locs h hl hE; rw [fX8_deal_15] at h; cases h
    | succ n15 ih15 =>
      intro l1 l2 w ls H locs h hl hE
      rw [fX8_deal_15] at h
      refine lv_iload_n hx hb dX8_deal_15 rfl (lv_at hl 2 rfl) ?_
      refine lv_iload_n hx hb dX8_deal_16 rfl (lv_at hl 1 rfl) ?_
      refine lv_icmp_ge (tgt := 85) hx hb dX8_deal_17 (by decide) (fun c45 => ?_) (fun c45 => ?_)
      · have h := zif c45 h
        refine lv_iload_n hx hb dX8_deal_85 rfl (lv_at hl 2 rfl) ?_
        exact zr_iret S hE hr hlk h dX8_deal_86
      · have h := zif' c45 h
        refine lv_aload_n hx hb dX8_deal_20 rfl (lv_at hl 0 rfl) ?_
        refine zr_getA S hK hE zcl_X8 (zm_0 w) 0 (Nat.le_of_ble_eq_true rfl) (q := 1) rfl qf_X8_9 dX8_deal_21 ?_
        refine lv_iconst (v := 1) hx hb dX8_deal_24 (by decide) ?_
        obtain ⟨x46, ex46, h⟩ := zbdE h
        refine zr_iald S hK hE (zm_1 w) dX8_deal_25 ex46 ?_
        refine lv_bipush (v := 10) hx hb dX8_deal_26 (by decide) ?_
        refine lv_icmp_ge (tgt := 85) hx hb dX8_deal_28 (by decide) (fun c47 => ?_) (fun c47 => ?_)
        · have h := zif c47 h
          refine lv_iload_n hx hb dX8_deal_85 rfl (lv_at hl 2 rfl) ?_
          exact zr_iret S hE hr hlk h dX8_deal_86
        · have h := zif' c47 h
          refine lv_aload_n hx hb dX8_deal_31 rfl (lv_at hl 0 rfl) ?_
          obtain ⟨x48, w49, ew49, h⟩ := zbd2E h
          refine zr_i (zr_runV (As := []) S hX hE (kX8_draw l D tc lo ad fr zq w x48 w49 ew49) zyX8_draw qm_X8_147 zcl_X8 rfl (zm_0 w) ⟨rfl, rfl⟩ ⟨Nat.le_of_ble_eq_true rfl, Nat.le_of_ble_eq_true rfl⟩ rfl hl.1 rfl (Nat.le_of_ble_eq_true rfl) dX8_deal_32 ⟨Nat.zero_le _, Nat.zero_le _⟩) hE (fun H locs hE => ?_)
          refine lv_bipush (v := 6) hx hb dX8_deal_35 (by decide) ?_
          obtain ⟨x50, ex50, h⟩ := zbdE h
          refine zr_irem hx hb dX8_deal_37 ex50 ?_
          refine lv_istore_n (lv' := [(3, .int x50), (0, .ref (ad 0)), (1, .int l1), (2, .int l2)]) hx hb dX8_deal_38 rfl hl (by decide) rfl (fun ls hl => ?_)
          refine lv_aload_n hx hb dX8_deal_39 rfl (lv_at hl 1 rfl) ?_
          obtain ⟨x51, w52, ew52, h⟩ := zbd2E h
          refine zr_i (zr_runV (As := []) S hX hE (kX8_draw l D tc lo ad fr zq w49 x51 w52 ew52) zyX8_draw qm_X8_147 zcl_X8 rfl (zm_0 w49) ⟨rfl, rfl⟩ ⟨Nat.le_of_ble_eq_true rfl, Nat.le_of_ble_eq_true rfl⟩ rfl hl.1 rfl (Nat.le_of_ble_eq_true rfl) dX8_deal_40 ⟨Nat.zero_le _, Nat.zero_le _⟩) hE (fun H locs hE => ?_)
          refine lv_bipush (v := 36) hx hb dX8_deal_43 (by decide) ?_
          obtain ⟨x53, ex53, h⟩ := zbdE h
          refine zr_irem hx hb dX8_deal_45 ex53 ?_
          refine lv_istore (lv' := [(4, .int x53), (3, .int x50), (0, .ref (ad 0)), (1, .int l1), (2, .int l2)]) hx hb dX8_deal_46 hl (by decide) rfl (fun ls hl => ?_)
          refine lv_iconst (v := 1) hx hb dX8_deal_48 (by decide) ?_
          refine lv_aload_n hx hb dX8_deal_49 rfl (lv_at hl 2 rfl) ?_
          obtain ⟨x54, w55, ew55, h⟩ := zbd2E h
          refine zr_i (zr_runV (As := []) S hX hE (kX8_draw l D tc lo ad fr zq w52 x54 w55 ew55) zyX8_draw qm_X8_147 zcl_X8 rfl (zm_0 w52) ⟨rfl, rfl⟩ ⟨Nat.le_of_ble_eq_true rfl, Nat.le_of_ble_eq_true rfl⟩ rfl hl.1 rfl (Nat.le_of_ble_eq_true rfl) dX8_deal_50 ⟨Nat.zero_le _, Nat.zero_le _⟩) hE (fun H locs hE => ?_)
          refine lv_bipush (v := 40) hx hb dX8_deal_53 (by decide) ?_
          obtain ⟨x56, ex56, h⟩ := zbdE h
          refine zr_irem hx hb dX8_deal_55 ex56 ?_
          refine lv_iadd hx hb dX8_deal_56 ?_
          obtain ⟨x57, ex57, h⟩ := zbdE h
          refine zr_topi ex57 ?_
          refine lv_istore (lv' := [(5, .int x57), (4, .int x53), (3, .int x50), (0, .ref (ad 0)), (1, .int l1), (2, .int l2)]) hx hb dX8_deal_57 hl (by decide) rfl (fun ls hl => ?_)
          refine lv_aload_n hx hb dX8_deal_59 rfl (lv_at hl 3 rfl) ?_
          refine lv_iload_n hx hb dX8_deal_60 rfl (lv_at hl 2 rfl) ?_
          refine lv_iload hx hb dX8_deal_61 (lv_at hl 1 rfl) ?_
          refine lv_iload hx hb dX8_deal_63 (lv_at hl 0 rfl) ?_
          refine lv_iconst (v := 1) hx hb dX8_deal_65 (by decide) ?_
          refine lv_aload_n hx hb dX8_deal_66 rfl (lv_at hl 3 rfl) ?_
          obtain ⟨x58, w59, ew59, h⟩ := zbd2E h
          refine zr_i (zr_runV (As := []) S hX hE (kX8_draw l D tc lo ad fr zq w55 x58 w59 ew59) zyX8_draw qm_X8_147 zcl_X8 rfl (zm_0 w55) ⟨rfl, rfl⟩ ⟨Nat.le_of_ble_eq_true rfl, Nat.le_of_ble_eq_true rfl⟩ rfl hl.1 rfl (Nat.le_of_ble_eq_true rfl) dX8_deal_67 ⟨Nat.zero_le _, Nat.zero_le _⟩) hE (fun H locs hE => ?_)
          refine lv_bipush (v := 9) hx hb dX8_deal_70 (by decide) ?_
          obtain ⟨x60, ex60, h⟩ := zbdE h
          refine zr_irem hx hb dX8_deal_72 ex60 ?_
          refine lv_iadd hx hb dX8_deal_73 ?_
          obtain ⟨x61, w62, ew62, h⟩ := zbd2E h
          refine zr_i (zr_runV (As := [.int x50, .int x53, .int x57, .int (1 + x60)]) S hX hE (kX8_comes l D tc lo ad fr zq x50 x53 x57 (1 + x60) w59 x61 w62 ew62) zyX8_comes qm_X8_99 zcl_X8 rfl (zm_0 w59) ⟨rfl, rfl⟩ ⟨Nat.le_of_ble_eq_true rfl, Nat.le_of_ble_eq_true rfl⟩ rfl hl.1 rfl (Nat.le_of_ble_eq_true rfl) dX8_deal_74 ⟨Nat.zero_le _, Nat.zero_le _⟩) hE (fun H locs hE => ?_)
          refine lv_istore (lv' := [(6, .int x61), (5, .int x57), (4, .int x53), (3, .int x50), (0, .ref (ad 0)), (1, .int l1), (2, .int l2)]) hx hb dX8_deal_77 hl (by decide) rfl (fun ls hl => ?_)
          obtain ⟨x63, ex63, h⟩ := zbdE h
          refine lv_iinc (v := x63) (lv' := [(2, .int x63), (6, .int x61), (5, .int x57), (4, .int x53), (3, .int x50), (0, .ref (ad 0)), (1, .int l1)]) hx hb dX8_deal_79 hl (k := 6) rfl (zinc (k := 1) (by decide) ex63) (by decide) rfl (fun ls hl => ?_)
          refine lv_goto (tgt := 15) hx hb dX8_deal_82 (by decide) ?_
          exact ih15 l1 x63 w62 ls _ _ h (lv_sub hl [5, 6, 0] rfl) hE
  refine lv_iload_n hx hb dX8_deal_0 rfl (lv_at hl 1 rfl) ?_
  refine lv_iconst (v := 1) hx hb dX8_deal_1 (by decide) ?_
  refine lv_bipush (v := 10) hx hb dX8_deal_2 (by decide) ?_
  obtain ⟨x10001, w10002, ew10002, h⟩ := zbd2E h
  refine zr_i (zr_runS (As := [.int a1, .int 1, .int 10]) S hX hE (kX8_in l D tc lo ad fr zq a1 1 10 w x10001 w10002 ew10002) zyX8_in qm_X8_81 ⟨rfl, rfl⟩ ⟨Nat.le_of_ble_eq_true rfl, Nat.le_of_ble_eq_true rfl⟩ rfl hl.1 rfl (Nat.le_of_ble_eq_true rfl) dX8_deal_4 ⟨Nat.zero_le _, Nat.zero_le _⟩) hE (fun H locs hE => ?_)
  refine lv_if_ne (tgt := 13) hx hb dX8_deal_7 (by decide) (fun c10003 => ?_) (fun c10003 => ?_)
  · have h := zif' c10003 h
    refine lv_iconst (v := 0) hx hb dX8_deal_13 (by decide) ?_
    refine lv_istore_n (lv' := [(2, .int 0), (0, .ref (ad 0)), (1, .int a1)]) hx hb dX8_deal_14 rfl hl (by decide) rfl (fun ls hl => ?_)
    exact L15 zfuel a1 0 w10002 ls _ _ h (lv_sub hl [1, 2, 0] rfl) hE
  · have h := zif c10003 h
    refine zr_ldc S qc_X8_97 dX8_deal_10 ?_
    exact zr_iret S hE hr hlk h dX8_deal_12
set_option maxHeartbeats 4000000 in
set_option maxRecDepth 100000 in
theorem kX8_two (l : Launch) (D : va_G) (tc : Nat → ClassId) (lo : Nat) (ad : Nat → Nat) (fr : va_W) (zq : zz_Q) (a1 : Int32) (a2 : Int32) (a3 : Int32) (w : zz_W) (r : Int32) (w_ : zz_W) (h : fX8_two a1 a2 a3 w = some (r, w_)) : zMi l yX8_two cX8_two 3 (some .int) { frames := 0, cells := 0, slots := 0, locals := 0 } D tc lo ad zshM znnM fr zq [.int a1, .int a2, .int a3] w r w_ := by
  refine zr_entry (by decide) (Nat.le_of_ble_eq_true rfl) fun p e s m args below meth c ls S hX hr hlk hE hl => ?_
  have S : CallFix p m c cX8_two 3 s args (Cond.code yX8_two cX8_two 3 (some .int) :: zw_tb) RX8 := S
  have hx := S.1
  have hb := S.2.1
  have hK := hX.2.1
  have hl : lv_has ls 3 [(0, .int a1), (1, .int a2), (2, .int a3)] := hl
  unfold fX8_two at h
  refine lv_iload_n hx hb dX8_two_0 rfl (lv_at hl 0 rfl) ?_
  by_cases c10001 : a1 = (-8)
  · refine lv_tableIn (off := 116) (tgt := 117) hx hb dX8_two_1 (by rw [c10001]; decide) (by rw [c10001]; decide) (by rw [c10001]; decide) (by decide) ?_
    have h := zif c10001 h
    refine lv_iload_n hx hb dX8_two_117 rfl (lv_at hl 1 rfl) ?_
    refine lv_iload_n hx hb dX8_two_118 rfl (lv_at hl 2 rfl) ?_
    refine lv_imul hx hb dX8_two_119 ?_
    exact zr_iret S hE hr hlk h dX8_two_120
  have h := zif' c10001 h
  by_cases c10002 : a1 = (-7)
  · refine lv_tableIn (off := 112) (tgt := 113) hx hb dX8_two_1 (by rw [c10002]; decide) (by rw [c10002]; decide) (by rw [c10002]; decide) (by decide) ?_
    have h := zif c10002 h
    refine lv_iload_n hx hb dX8_two_113 rfl (lv_at hl 1 rfl) ?_
    refine lv_iload_n hx hb dX8_two_114 rfl (lv_at hl 2 rfl) ?_
    refine lv_isub hx hb dX8_two_115 ?_
    exact zr_iret S hE hr hlk h dX8_two_116
  have h := zif' c10002 h
  by_cases c10003 : a1 = (-6)
  · refine lv_tableIn (off := 108) (tgt := 109) hx hb dX8_two_1 (by rw [c10003]; decide) (by rw [c10003]; decide) (by rw [c10003]; decide) (by decide) ?_
    have h := zif c10003 h
    refine lv_iload_n hx hb dX8_two_109 rfl (lv_at hl 1 rfl) ?_
    refine lv_iload_n hx hb dX8_two_110 rfl (lv_at hl 2 rfl) ?_
    refine lv_iadd hx hb dX8_two_111 ?_
    exact zr_iret S hE hr hlk h dX8_two_112
  have h := zif' c10003 h
  by_cases c10005 : a1 = (-5)
  · refine lv_tableIn (off := 97) (tgt := 98) hx hb dX8_two_1 (by rw [c10005]; decide) (by rw [c10005]; decide) (by rw [c10005]; decide) (by decide) ?_
    have h := zif c10005 h
    refine lv_iload_n hx hb dX8_two_98 rfl (lv_at hl 1 rfl) ?_
    refine lv_iload_n hx hb dX8_two_99 rfl (lv_at hl 2 rfl) ?_
    refine lv_icmp_le (tgt := 107) hx hb dX8_two_100 (by decide) (fun c10004 => ?_) (fun c10004 => ?_)
    · have h := zif c10004 h
      refine lv_iconst (v := 0) hx hb dX8_two_107 (by decide) ?_
      exact zr_iret S hE hr hlk h dX8_two_108
    · have h := zif' c10004 h
      refine lv_iconst (v := 1) hx hb dX8_two_103 (by decide) ?_
      refine lv_goto (tgt := 108) hx hb dX8_two_104 (by decide) ?_
      exact zr_iret S hE hr hlk h dX8_two_108
  have h := zif' c10005 h
  by_cases c10007 : a1 = (-4)
  · refine lv_tableIn (off := 86) (tgt := 87) hx hb dX8_two_1 (by rw [c10007]; decide) (by rw [c10007]; decide) (by rw [c10007]; decide) (by decide) ?_
    have h := zif c10007 h
    refine lv_iload_n hx hb dX8_two_87 rfl (lv_at hl 1 rfl) ?_
    refine lv_iload_n hx hb dX8_two_88 rfl (lv_at hl 2 rfl) ?_
    refine lv_icmp_ne (tgt := 96) hx hb dX8_two_89 (by decide) (fun c10006 => ?_) (fun c10006 => ?_)
    · have h := zif' c10006 h
      refine lv_iconst (v := 0) hx hb dX8_two_96 (by decide) ?_
      exact zr_iret S hE hr hlk h dX8_two_97
    · have h := zif c10006 h
      refine lv_iconst (v := 1) hx hb dX8_two_92 (by decide) ?_
      refine lv_goto (tgt := 97) hx hb dX8_two_93 (by decide) ?_
      exact zr_iret S hE hr hlk h dX8_two_97
  have h := zif' c10007 h
  by_cases c10009 : a1 = (-3)
  · refine lv_tableIn (off := 75) (tgt := 76) hx hb dX8_two_1 (by rw [c10009]; decide) (by rw [c10009]; decide) (by rw [c10009]; decide) (by decide) ?_
    have h := zif c10009 h
    refine lv_iload_n hx hb dX8_two_76 rfl (lv_at hl 1 rfl) ?_
    refine lv_iload_n hx hb dX8_two_77 rfl (lv_at hl 2 rfl) ?_
    refine lv_icmp_ge (tgt := 85) hx hb dX8_two_78 (by decide) (fun c10008 => ?_) (fun c10008 => ?_)
    · have h := zif c10008 h
      refine lv_iconst (v := 0) hx hb dX8_two_85 (by decide) ?_
      exact zr_iret S hE hr hlk h dX8_two_86
    · have h := zif' c10008 h
      refine lv_iconst (v := 1) hx hb dX8_two_81 (by decide) ?_
      refine lv_goto (tgt := 86) hx hb dX8_two_82 (by decide) ?_
      exact zr_iret S hE hr hlk h dX8_two_86
  have h := zif' c10009 h
  by_cases c10012 : a1 = (-2)
  · refine lv_tableIn (off := 61) (tgt := 62) hx hb dX8_two_1 (by rw [c10012]; decide) (by rw [c10012]; decide) (by rw [c10012]; decide) (by decide) ?_
    have h := zif c10012 h
    refine lv_iload_n hx hb dX8_two_62 rfl (lv_at hl 1 rfl) ?_
    refine lv_if_eq (tgt := 74) hx hb dX8_two_63 (by decide) (fun c10010 => ?_) (fun c10010 => ?_)
    · have h := zif c10010 h
      refine lv_iconst (v := 0) hx hb dX8_two_74 (by decide) ?_
      exact zr_iret S hE hr hlk h dX8_two_75
    · have h := zif' c10010 h
      refine lv_iload_n hx hb dX8_two_66 rfl (lv_at hl 2 rfl) ?_
      refine lv_if_eq (tgt := 74) hx hb dX8_two_67 (by decide) (fun c10011 => ?_) (fun c10011 => ?_)
      · have h := zif c10011 h
        refine lv_iconst (v := 0) hx hb dX8_two_74 (by decide) ?_
        exact zr_iret S hE hr hlk h dX8_two_75
      · have h := zif' c10011 h
        refine lv_iconst (v := 1) hx hb dX8_two_70 (by decide) ?_
        refine lv_goto (tgt := 75) hx hb dX8_two_71 (by decide) ?_
        exact zr_iret S hE hr hlk h dX8_two_75
  have h := zif' c10012 h
  by_cases c10015 : a1 = (-1)
  · refine lv_tableIn (off := 47) (tgt := 48) hx hb dX8_two_1 (by rw [c10015]; decide) (by rw [c10015]; decide) (by rw [c10015]; decide) (by decide) ?_
    have h := zif c10015 h
    refine lv_iload_n hx hb dX8_two_48 rfl (lv_at hl 1 rfl) ?_
    refine lv_if_ne (tgt := 56) hx hb dX8_two_49 (by decide) (fun c10013 => ?_) (fun c10013 => ?_)
    · have h := zif' c10013 h
      refine lv_iconst (v := 1) hx hb dX8_two_56 (by decide) ?_
      refine lv_goto (tgt := 61) hx hb dX8_two_57 (by decide) ?_
      exact zr_iret S hE hr hlk h dX8_two_61
    · have h := zif c10013 h
      refine lv_iload_n hx hb dX8_two_52 rfl (lv_at hl 2 rfl) ?_
      refine lv_if_eq (tgt := 60) hx hb dX8_two_53 (by decide) (fun c10014 => ?_) (fun c10014 => ?_)
      · have h := zif c10014 h
        refine lv_iconst (v := 0) hx hb dX8_two_60 (by decide) ?_
        exact zr_iret S hE hr hlk h dX8_two_61
      · have h := zif' c10014 h
        refine lv_iconst (v := 1) hx hb dX8_two_56 (by decide) ?_
        refine lv_goto (tgt := 61) hx hb dX8_two_57 (by decide) ?_
        exact zr_iret S hE hr hlk h dX8_two_61
  have h := zif' c10015 h
  refine lv_tableOut (tgt := 121) hx hb dX8_two_1 (by have tc10001 := lv_neT c10001 (a := (-8)) (by decide); have tc10002 := lv_neT c10002 (a := (-7)) (by decide); have tc10003 := lv_neT c10003 (a := (-6)) (by decide); have tc10005 := lv_neT c10005 (a := (-5)) (by decide); have tc10007 := lv_neT c10007 (a := (-4)) (by decide); have tc10009 := lv_neT c10009 (a := (-3)) (by decide); have tc10012 := lv_neT c10012 (a := (-2)) (by decide); have tc10015 := lv_neT c10015 (a := (-1)) (by decide); omega) (by decide) ?_
  refine lv_iload_n hx hb dX8_two_121 rfl (lv_at hl 2 rfl) ?_
  refine lv_if_ne (tgt := 129) hx hb dX8_two_122 (by decide) (fun c10016 => ?_) (fun c10016 => ?_)
  · have h := zif' c10016 h
    refine lv_iload_n hx hb dX8_two_129 rfl (lv_at hl 1 rfl) ?_
    refine lv_iload_n hx hb dX8_two_130 rfl (lv_at hl 2 rfl) ?_
    obtain ⟨x10017, ex10017, h⟩ := zbdE h
    refine zr_idiv hx hb dX8_two_131 ex10017 ?_
    exact zr_iret S hE hr hlk h dX8_two_132
  · have h := zif c10016 h
    refine lv_iconst (v := 0) hx hb dX8_two_125 (by decide) ?_
    refine lv_goto (tgt := 132) hx hb dX8_two_126 (by decide) ?_
    exact zr_iret S hE hr hlk h dX8_two_132
set_option maxHeartbeats 4000000 in
set_option maxRecDepth 100000 in
theorem kX8_worksOut (l : Launch) (D : va_G) (tc : Nat → ClassId) (lo : Nat) (ad : Nat → Nat) (fr : va_W) (zq : zz_Q) (a1 : Int32) (w : zz_W) (r : Int32) (w_ : zz_W) (h : fX8_worksOut a1 w = some (r, w_)) : zMi l yX8_worksOut cX8_worksOut 6 (some .int) { frames := 1, cells := 0, slots := 0, locals := 22 } D tc lo ad zshM znnM fr zq [.ref (ad 0), .int a1] w r w_ := by
  refine zr_entry (by decide) (Nat.le_of_ble_eq_true rfl) fun p e s m args below meth c ls S hX hr hlk hE hl => ?_
  have S : CallFix p m c cX8_worksOut 6 s args (Cond.code yX8_worksOut cX8_worksOut 6 (some .int) :: zw_tb) RX8 := S
  have hx := S.1
  have hb := S.2.1
  have hK := hX.2.1
  have hl : lv_has ls 6 [(0, .ref (ad 0)), (1, .int a1)] := hl
  unfold fX8_worksOut at h
  have L21 : ∀ (n : Nat) (l1 : Int32) (l2 : Int32) (l3 : Int32) (l4 : Int32) (w : zz_W) (ls : Array Slot) (H : Heap) (locs : List Loc), fX8_worksOut_21 a1 n l1 l2 l3 l4 w = some (r, w_) → lv_has ls 6 [(0, .ref (ad 0)), (1, .int l1), (2, .int l2), (3, .int l3), (4, .int l4)] → zE D tc lo ad zshM znnM fr w s.heap H locs → W p l e { frames := 1, cells := 0, slots := 0, locals := 22 } s m args below meth c H locs 0 0 (zZi D tc lo ad zshM znnM fr below args s r w_) (F0 m 21 ls []) := by
    intro n21
    induction n21 with
    | zero => intro l1 l2 l3 l4 w ls H locs h hl hE; rw [fX8_worksOut_21] at h; cases h
    | succ n21 ih21 =>
      intro l1 l2 l3 l4 w ls H locs h hl hE
      rw [fX8_worksOut_21] at h
      have J115 : ∀ (l1 : Int32) (l2 : Int32) (l3 : Int32) (l4 : Int32) (s1 : Int32) (s2 : Int32) (w : zz_W) (ls : Array Slot) (H : Heap) (locs : List Loc), fX8_worksOut_115 a1 (fX8_worksOut_21 a1 n21) l1 l2 l3 l4 s1 s2 w = some (r, w_) → lv_has ls 6 [(0, .ref (ad 0)), (1, .int l1), (2, .int l2), (3, .int l3), (4, .int l4)] → zE D tc lo ad zshM znnM fr w s.heap H locs → W p l e { frames := 1, cells := 0, slots := 0, locals := 22 } s m args below meth c H locs 0 0 (zZi D tc lo ad zshM znnM fr below args s r w_) (F0 m 115 ls [.int s2, .int s1, .ref (ad 13)]) := by
        intro l1 l2 l3 l4 s1 s2 w ls H locs h hl hE
        unfold fX8_worksOut_115 at h
        obtain ⟨w47, ew47, h⟩ := zbdE h
        refine zr_iast S hK hE (zm_13 w) dX8_worksOut_115 ew47 (fun H locs hE => ?_)
        refine lv_goto (tgt := 149) hx hb dX8_worksOut_116 (by decide) ?_
        obtain ⟨x48, ex48, h⟩ := zbdE h
        refine lv_iinc (v := x48) (lv' := [(4, .int x48), (0, .ref (ad 0)), (1, .int l1), (2, .int l2), (3, .int l3)]) hx hb dX8_worksOut_149 hl (k := 4) rfl (zinc (k := 1) (by decide) ex48) (by decide) rfl (fun ls hl => ?_)
        refine lv_goto (tgt := 21) hx hb dX8_worksOut_152 (by decide) ?_
        exact ih21 l1 l2 l3 x48 w47 ls _ _ h (lv_sub hl [1, 2, 3, 4, 0] rfl) hE
      have J78 : ∀ (l1 : Int32) (l2 : Int32) (l3 : Int32) (l4 : Int32) (s1 : Int32) (s2 : Int32) (w : zz_W) (ls : Array Slot) (H : Heap) (locs : List Loc), fX8_worksOut_78 a1 (fX8_worksOut_21 a1 n21) l1 l2 l3 l4 s1 s2 w = some (r, w_) → lv_has ls 6 [(0, .ref (ad 0)), (1, .int l1), (2, .int l2), (3, .int l3), (4, .int l4)] → zE D tc lo ad zshM znnM fr w s.heap H locs → W p l e { frames := 1, cells := 0, slots := 0, locals := 22 } s m args below meth c H locs 0 0 (zZi D tc lo ad zshM znnM fr below args s r w_) (F0 m 78 ls [.int s2, .int s1, .ref (ad 13)]) := by
        intro l1 l2 l3 l4 s1 s2 w ls H locs h hl hE
        unfold fX8_worksOut_78 at h
        obtain ⟨w49, ew49, h⟩ := zbdE h
        refine zr_iast S hK hE (zm_13 w) dX8_worksOut_78 ew49 (fun H locs hE => ?_)
        obtain ⟨x50, ex50, h⟩ := zbdE h
        refine lv_iinc (v := x50) (lv' := [(2, .int x50), (0, .ref (ad 0)), (1, .int l1), (3, .int l3), (4, .int l4)]) hx hb dX8_worksOut_79 hl (k := 2) rfl (zinc (k := 1) (by decide) ex50) (by decide) rfl (fun ls hl => ?_)
        refine lv_goto (tgt := 149) hx hb dX8_worksOut_82 (by decide) ?_
        obtain ⟨x51, ex51, h⟩ := zbdE h
        refine lv_iinc (v := x51) (lv' := [(4, .int x51), (2, .int x50), (0, .ref (ad 0)), (1, .int l1), (3, .int l3)]) hx hb dX8_worksOut_149 hl (k := 4) rfl (zinc (k := 1) (by decide) ex51) (by decide) rfl (fun ls hl => ?_)
        refine lv_goto (tgt := 21) hx hb dX8_worksOut_152 (by decide) ?_
        exact ih21 l1 x50 l3 x51 w49 ls _ _ h (lv_sub hl [2, 3, 1, 4, 0] rfl) hE
      refine lv_iload hx hb dX8_worksOut_21 (lv_at hl 4 rfl) ?_
      refine lv_iload_n hx hb dX8_worksOut_23 rfl (lv_at hl 3 rfl) ?_
      refine lv_icmp_ge (tgt := 155) hx hb dX8_worksOut_24 (by decide) (fun c52 => ?_) (fun c52 => ?_)
      · have h := zif c52 h
        refine lv_aload_n hx hb dX8_worksOut_155 rfl (lv_at hl 0 rfl) ?_
        refine zr_getA S hK hE zcl_X8 (zm_0 w) 23 (Nat.le_of_ble_eq_true rfl) (q := 13) rfl qf_X8_48 dX8_worksOut_156 ?_
        refine lv_iconst (v := 0) hx hb dX8_worksOut_159 (by decide) ?_
        obtain ⟨x53, ex53, h⟩ := zbdE h
        refine zr_iald S hK hE (zm_13 w) dX8_worksOut_160 ex53 ?_
        exact zr_iret S hE hr hlk h dX8_worksOut_161
      · have h := zif' c52 h
        refine lv_aload_n hx hb dX8_worksOut_27 rfl (lv_at hl 0 rfl) ?_
        refine zr_getA S hK hE zcl_X8 (zm_0 w) 0 (Nat.le_of_ble_eq_true rfl) (q := 1) rfl qf_X8_9 dX8_worksOut_28 ?_
        refine lv_bipush (v := 92) hx hb dX8_worksOut_31 (by decide) ?_
        refine lv_bipush (v := 96) hx hb dX8_worksOut_33 (by decide) ?_
        refine lv_iload_n hx hb dX8_worksOut_35 rfl (lv_at hl 1 rfl) ?_
        refine lv_imul hx hb dX8_worksOut_36 ?_
        refine lv_iadd hx hb dX8_worksOut_37 ?_
        refine lv_iload hx hb dX8_worksOut_38 (lv_at hl 4 rfl) ?_
        refine lv_iadd hx hb dX8_worksOut_40 ?_
        obtain ⟨x54, ex54, h⟩ := zbdE h
        refine zr_iald S hK hE (zm_1 w) dX8_worksOut_41 ex54 ?_
        refine lv_istore (lv' := [(5, .int x54), (0, .ref (ad 0)), (1, .int l1), (2, .int l2), (3, .int l3), (4, .int l4)]) hx hb dX8_worksOut_42 hl (by decide) rfl (fun ls hl => ?_)
        refine lv_iload hx hb dX8_worksOut_44 (lv_at hl 0 rfl) ?_
        refine lv_if_lt (tgt := 85) hx hb dX8_worksOut_46 (by decide) (fun c55 => ?_) (fun c55 => ?_)
        · have h := zif c55 h
          refine lv_iload hx hb dX8_worksOut_85 (lv_at hl 0 rfl) ?_
          refine lv_bipush (v := (-10)) hx hb dX8_worksOut_87 (by decide) ?_
          refine lv_icmp_ne (tgt := 119) hx hb dX8_worksOut_89 (by decide) (fun c56 => ?_) (fun c56 => ?_)
          · have h := zif' c56 h
            obtain ⟨x57, ex57, h⟩ := zbdE h
            refine lv_iinc (v := x57) (lv' := [(2, .int x57), (5, .int x54), (0, .ref (ad 0)), (1, .int l1), (3, .int l3), (4, .int l4)]) hx hb dX8_worksOut_119 hl (k := 3) rfl (zinc (k := (-1)) (by decide) ex57) (by decide) rfl (fun ls hl => ?_)
            refine lv_aload_n hx hb dX8_worksOut_122 rfl (lv_at hl 2 rfl) ?_
            refine zr_getA S hK hE zcl_X8 (zm_0 w) 23 (Nat.le_of_ble_eq_true rfl) (q := 13) rfl qf_X8_48 dX8_worksOut_123 ?_
            refine lv_iload_n hx hb dX8_worksOut_126 rfl (lv_at hl 0 rfl) ?_
            refine lv_iconst (v := 1) hx hb dX8_worksOut_127 (by decide) ?_
            refine lv_isub hx hb dX8_worksOut_128 ?_
            refine lv_iload hx hb dX8_worksOut_129 (lv_at hl 1 rfl) ?_
            refine lv_aload_n hx hb dX8_worksOut_131 rfl (lv_at hl 2 rfl) ?_
            refine zr_getA S hK hE zcl_X8 (zm_0 w) 23 (Nat.le_of_ble_eq_true rfl) (q := 13) rfl qf_X8_48 dX8_worksOut_132 ?_
            refine lv_iload_n hx hb dX8_worksOut_135 rfl (lv_at hl 0 rfl) ?_
            refine lv_iconst (v := 1) hx hb dX8_worksOut_136 (by decide) ?_
            refine lv_isub hx hb dX8_worksOut_137 ?_
            obtain ⟨x58, ex58, h⟩ := zbdE h
            refine zr_iald S hK hE (zm_13 w) dX8_worksOut_138 ex58 ?_
            refine lv_aload_n hx hb dX8_worksOut_139 rfl (lv_at hl 2 rfl) ?_
            refine zr_getA S hK hE zcl_X8 (zm_0 w) 23 (Nat.le_of_ble_eq_true rfl) (q := 13) rfl qf_X8_48 dX8_worksOut_140 ?_
            refine lv_iload_n hx hb dX8_worksOut_143 rfl (lv_at hl 0 rfl) ?_
            obtain ⟨x59, ex59, h⟩ := zbdE h
            refine zr_iald S hK hE (zm_13 w) dX8_worksOut_144 ex59 ?_
            obtain ⟨x60, w61, ew61, h⟩ := zbd2E h
            refine zr_i (zr_runS (As := [.int x54, .int x58, .int x59]) S hX hE (kX8_two l D tc lo ad fr zq x54 x58 x59 w x60 w61 ew61) zyX8_two qm_X8_286 ⟨rfl, rfl⟩ ⟨Nat.le_of_ble_eq_true rfl, Nat.le_of_ble_eq_true rfl⟩ rfl hl.1 rfl (Nat.le_of_ble_eq_true rfl) dX8_worksOut_145 ⟨Nat.zero_le _, Nat.zero_le _⟩) hE (fun H locs hE => ?_)
            obtain ⟨w62, ew62, h⟩ := zbdE h
            refine zr_iast S hK hE (zm_13 w61) dX8_worksOut_148 ew62 (fun H locs hE => ?_)
            obtain ⟨x63, ex63, h⟩ := zbdE h
            refine lv_iinc (v := x63) (lv' := [(4, .int x63), (2, .int x57), (5, .int x54), (0, .ref (ad 0)), (1, .int l1), (3, .int l3)]) hx hb dX8_worksOut_149 hl (k := 5) rfl (zinc (k := 1) (by decide) ex63) (by decide) rfl (fun ls hl => ?_)
            refine lv_goto (tgt := 21) hx hb dX8_worksOut_152 (by decide) ?_
            exact ih21 l1 x57 l3 x63 w62 ls _ _ h (lv_sub hl [3, 4, 1, 5, 0] rfl) hE
          · have h := zif c56 h
            refine lv_aload_n hx hb dX8_worksOut_92 rfl (lv_at hl 1 rfl) ?_
            refine zr_getA S hK hE zcl_X8 (zm_0 w) 23 (Nat.le_of_ble_eq_true rfl) (q := 13) rfl qf_X8_48 dX8_worksOut_93 ?_
            refine lv_iload_n hx hb dX8_worksOut_96 rfl (lv_at hl 3 rfl) ?_
            refine lv_iconst (v := 1) hx hb dX8_worksOut_97 (by decide) ?_
            refine lv_isub hx hb dX8_worksOut_98 ?_
            refine lv_aload_n hx hb dX8_worksOut_99 rfl (lv_at hl 1 rfl) ?_
            refine zr_getA S hK hE zcl_X8 (zm_0 w) 23 (Nat.le_of_ble_eq_true rfl) (q := 13) rfl qf_X8_48 dX8_worksOut_100 ?_
            refine lv_iload_n hx hb dX8_worksOut_103 rfl (lv_at hl 3 rfl) ?_
            refine lv_iconst (v := 1) hx hb dX8_worksOut_104 (by decide) ?_
            refine lv_isub hx hb dX8_worksOut_105 ?_
            obtain ⟨x64, ex64, h⟩ := zbdE h
            refine zr_iald S hK hE (zm_13 w) dX8_worksOut_106 ex64 ?_
            refine lv_if_ne (tgt := 114) hx hb dX8_worksOut_107 (by decide) (fun c65 => ?_) (fun c65 => ?_)
            · have h := zif' c65 h
              refine lv_iconst (v := 0) hx hb dX8_worksOut_114 (by decide) ?_
              exact J115 l1 l2 l3 l4 (l2 - 1) 0 w ls _ _ h (lv_sub hl [1, 2, 3, 4, 5] rfl) hE
            · have h := zif c65 h
              refine lv_iconst (v := 1) hx hb dX8_worksOut_110 (by decide) ?_
              refine lv_goto (tgt := 115) hx hb dX8_worksOut_111 (by decide) ?_
              exact J115 l1 l2 l3 l4 (l2 - 1) 1 w ls _ _ h (lv_sub hl [1, 2, 3, 4, 5] rfl) hE
        · have h := zif' c55 h
          refine lv_aload_n hx hb dX8_worksOut_49 rfl (lv_at hl 1 rfl) ?_
          refine zr_getA S hK hE zcl_X8 (zm_0 w) 23 (Nat.le_of_ble_eq_true rfl) (q := 13) rfl qf_X8_48 dX8_worksOut_50 ?_
          refine lv_iload_n hx hb dX8_worksOut_53 rfl (lv_at hl 3 rfl) ?_
          refine lv_iload hx hb dX8_worksOut_54 (lv_at hl 0 rfl) ?_
          refine lv_sipush (v := 10000) hx hb dX8_worksOut_56 (by decide) ?_
          refine lv_icmp_ge (tgt := 67) hx hb dX8_worksOut_59 (by decide) (fun c66 => ?_) (fun c66 => ?_)
          · have h := zif c66 h
            refine lv_aload_n hx hb dX8_worksOut_67 rfl (lv_at hl 1 rfl) ?_
            refine zr_getA S hK hE zcl_X8 (zm_0 w) 24 (Nat.le_of_ble_eq_true rfl) (q := 14) rfl qf_X8_51 dX8_worksOut_68 ?_
            refine lv_iload hx hb dX8_worksOut_71 (lv_at hl 0 rfl) ?_
            refine lv_sipush (v := 10000) hx hb dX8_worksOut_73 (by decide) ?_
            refine lv_isub hx hb dX8_worksOut_76 ?_
            obtain ⟨x67, ex67, h⟩ := zbdE h
            refine zr_iald S hK hE (zm_14 w) dX8_worksOut_77 ex67 ?_
            exact J78 l1 l2 l3 l4 l2 x67 w ls _ _ h (lv_sub hl [1, 2, 3, 4, 5] rfl) hE
          · have h := zif' c66 h
            refine lv_iload hx hb dX8_worksOut_62 (lv_at hl 0 rfl) ?_
            refine lv_goto (tgt := 78) hx hb dX8_worksOut_64 (by decide) ?_
            exact J78 l1 l2 l3 l4 l2 x54 w ls _ _ h (lv_sub hl [1, 2, 3, 4, 5] rfl) hE
  refine lv_iconst (v := 0) hx hb dX8_worksOut_0 (by decide) ?_
  refine lv_istore_n (lv' := [(2, .int 0), (0, .ref (ad 0)), (1, .int a1)]) hx hb dX8_worksOut_1 rfl hl (by decide) rfl (fun ls hl => ?_)
  refine lv_aload_n hx hb dX8_worksOut_2 rfl (lv_at hl 1 rfl) ?_
  refine zr_getA S hK hE zcl_X8 (zm_0 w) 0 (Nat.le_of_ble_eq_true rfl) (q := 1) rfl qf_X8_9 dX8_worksOut_3 ?_
  refine lv_bipush (v := 64) hx hb dX8_worksOut_6 (by decide) ?_
  refine lv_iconst (v := 2) hx hb dX8_worksOut_8 (by decide) ?_
  refine lv_iload_n hx hb dX8_worksOut_9 rfl (lv_at hl 2 rfl) ?_
  refine lv_imul hx hb dX8_worksOut_10 ?_
  refine lv_iadd hx hb dX8_worksOut_11 ?_
  obtain ⟨x10001, ex10001, h⟩ := zbdE h
  refine zr_iald S hK hE (zm_1 w) dX8_worksOut_12 ex10001 ?_
  refine lv_sipush (v := 1000) hx hb dX8_worksOut_13 (by decide) ?_
  obtain ⟨x10002, ex10002, h⟩ := zbdE h
  refine zr_irem hx hb dX8_worksOut_16 ex10002 ?_
  refine lv_istore_n (lv' := [(3, .int x10002), (2, .int 0), (0, .ref (ad 0)), (1, .int a1)]) hx hb dX8_worksOut_17 rfl hl (by decide) rfl (fun ls hl => ?_)
  refine lv_iconst (v := 0) hx hb dX8_worksOut_18 (by decide) ?_
  refine lv_istore (lv' := [(4, .int 0), (3, .int x10002), (2, .int 0), (0, .ref (ad 0)), (1, .int a1)]) hx hb dX8_worksOut_19 hl (by decide) rfl (fun ls hl => ?_)
  exact L21 zfuel a1 0 x10002 0 w ls _ _ h (lv_sub hl [3, 4, 2, 1, 0] rfl) hE
set_option maxHeartbeats 4000000 in
set_option maxRecDepth 100000 in
theorem kX8_hurtBy (l : Launch) (D : va_G) (tc : Nat → ClassId) (lo : Nat) (ad : Nat → Nat) (fr : va_W) (zq : zz_Q) (a1 : Int32) (w : zz_W) (r : Int32) (w_ : zz_W) (h : fX8_hurtBy a1 w = some (r, w_)) : zMi l yX8_hurtBy cX8_hurtBy 4 (some .int) { frames := 2, cells := 0, slots := 0, locals := 47 } D tc lo ad zshM znnM fr zq [.ref (ad 0), .int a1] w r w_ := by
  refine zr_entry (by decide) (Nat.le_of_ble_eq_true rfl) fun p e s m args below meth c ls S hX hr hlk hE hl => ?_
  have S : CallFix p m c cX8_hurtBy 4 s args (Cond.code yX8_hurtBy cX8_hurtBy 4 (some .int) :: zw_tb) RX8 := S
  have hx := S.1
  have hb := S.2.1
  have hK := hX.2.1
  have hl : lv_has ls 4 [(0, .ref (ad 0)), (1, .int a1)] := hl
  unfold fX8_hurtBy at h
  have J66 : ∀ (l1 : Int32) (s0 : Int32) (w : zz_W) (ls : Array Slot) (H : Heap) (locs : List Loc), fX8_hurtBy_66 a1 l1 s0 w = some (r, w_) → lv_has ls 4 [(0, .ref (ad 0)), (1, .int l1)] → zE D tc lo ad zshM znnM fr w s.heap H locs → W p l e { frames := 2, cells := 0, slots := 0, locals := 47 } s m args below meth c H locs 0 0 (zZi D tc lo ad zshM znnM fr below args s r w_) (F0 m 66 ls [.int s0]) := by
    intro l1 s0 w ls H locs h hl hE
    unfold fX8_hurtBy_66 at h
    refine lv_istore_n (lv' := [(3, .int s0), (0, .ref (ad 0)), (1, .int l1)]) hx hb dX8_hurtBy_66 rfl hl (by decide) rfl (fun ls hl => ?_)
    refine lv_aload_n hx hb dX8_hurtBy_67 rfl (lv_at hl 1 rfl) ?_
    refine lv_iload_n hx hb dX8_hurtBy_68 rfl (lv_at hl 2 rfl) ?_
    refine lv_iconst (v := 0) hx hb dX8_hurtBy_69 (by decide) ?_
    obtain ⟨x49, w50, ew50, h⟩ := zbd2E h
    refine zr_i (zr_runV (As := [.int l1, .int 0]) S hX hE (kX8_of l D tc lo ad fr zq l1 0 w x49 w50 ew50) zyX8_of qm_X8_103 zcl_X8 rfl (zm_0 w) ⟨rfl, rfl⟩ ⟨Nat.le_of_ble_eq_true rfl, Nat.le_of_ble_eq_true rfl⟩ rfl hl.1 rfl (Nat.le_of_ble_eq_true rfl) dX8_hurtBy_70 ⟨Nat.zero_le _, Nat.zero_le _⟩) hE (fun H locs hE => ?_)
    by_cases c51 : x49 = 1
    · refine lv_tableIn (off := 35) (tgt := 108) hx hb dX8_hurtBy_73 (by rw [c51]; decide) (by rw [c51]; decide) (by rw [c51]; decide) (by decide) ?_
      have h := zif c51 h
      refine lv_iconst (v := 2) hx hb dX8_hurtBy_108 (by decide) ?_
      refine lv_iload_n hx hb dX8_hurtBy_109 rfl (lv_at hl 0 rfl) ?_
      refine lv_imul hx hb dX8_hurtBy_110 ?_
      exact zr_iret S hE hr hlk h dX8_hurtBy_111
    have h := zif' c51 h
    by_cases c52 : x49 = 2
    · refine lv_tableIn (off := 39) (tgt := 112) hx hb dX8_hurtBy_73 (by rw [c52]; decide) (by rw [c52]; decide) (by rw [c52]; decide) (by decide) ?_
      have h := zif c52 h
      refine lv_iload_n hx hb dX8_hurtBy_112 rfl (lv_at hl 0 rfl) ?_
      refine lv_bipush (v := 9) hx hb dX8_hurtBy_113 (by decide) ?_
      refine lv_iadd hx hb dX8_hurtBy_115 ?_
      exact zr_iret S hE hr hlk h dX8_hurtBy_116
    have h := zif' c52 h
    by_cases c53 : x49 = 3
    · refine lv_tableIn (off := 44) (tgt := 117) hx hb dX8_hurtBy_73 (by rw [c53]; decide) (by rw [c53]; decide) (by rw [c53]; decide) (by decide) ?_
      have h := zif c53 h
      refine lv_iconst (v := 2) hx hb dX8_hurtBy_117 (by decide) ?_
      refine lv_iload_n hx hb dX8_hurtBy_118 rfl (lv_at hl 0 rfl) ?_
      refine lv_imul hx hb dX8_hurtBy_119 ?_
      refine lv_iconst (v := 1) hx hb dX8_hurtBy_120 (by decide) ?_
      refine lv_iadd hx hb dX8_hurtBy_121 ?_
      exact zr_iret S hE hr hlk h dX8_hurtBy_122
    have h := zif' c53 h
    by_cases c54 : x49 = 4
    · refine lv_tableIn (off := 50) (tgt := 123) hx hb dX8_hurtBy_73 (by rw [c54]; decide) (by rw [c54]; decide) (by rw [c54]; decide) (by decide) ?_
      have h := zif c54 h
      refine lv_iload_n hx hb dX8_hurtBy_123 rfl (lv_at hl 0 rfl) ?_
      refine lv_bipush (v := 7) hx hb dX8_hurtBy_124 (by decide) ?_
      refine lv_iadd hx hb dX8_hurtBy_126 ?_
      exact zr_iret S hE hr hlk h dX8_hurtBy_127
    have h := zif' c54 h
    by_cases c55 : x49 = 5
    · refine lv_tableIn (off := 55) (tgt := 128) hx hb dX8_hurtBy_73 (by rw [c55]; decide) (by rw [c55]; decide) (by rw [c55]; decide) (by decide) ?_
      have h := zif c55 h
      refine lv_iconst (v := 1) hx hb dX8_hurtBy_128 (by decide) ?_
      exact zr_iret S hE hr hlk h dX8_hurtBy_129
    have h := zif' c55 h
    refine lv_tableOut (tgt := 130) hx hb dX8_hurtBy_73 (by have tc51 := lv_neT c51 (a := 1) (by decide); have tc52 := lv_neT c52 (a := 2) (by decide); have tc53 := lv_neT c53 (a := 3) (by decide); have tc54 := lv_neT c54 (a := 4) (by decide); have tc55 := lv_neT c55 (a := 5) (by decide); omega) (by decide) ?_
    refine lv_iload_n hx hb dX8_hurtBy_130 rfl (lv_at hl 0 rfl) ?_
    exact zr_iret S hE hr hlk h dX8_hurtBy_131
  refine lv_aload_n hx hb dX8_hurtBy_0 rfl (lv_at hl 0 rfl) ?_
  refine lv_iconst (v := 0) hx hb dX8_hurtBy_1 (by decide) ?_
  obtain ⟨x10001, w10002, ew10002, h⟩ := zbd2E h
  refine zr_i (zr_runV (As := [.int 0]) S hX hE (kX8_counts l D tc lo ad fr zq 0 w x10001 w10002 ew10002) zyX8_counts qm_X8_114 zcl_X8 rfl (zm_0 w) ⟨rfl, rfl⟩ ⟨Nat.le_of_ble_eq_true rfl, Nat.le_of_ble_eq_true rfl⟩ rfl hl.1 rfl (Nat.le_of_ble_eq_true rfl) dX8_hurtBy_2 ⟨Nat.zero_le _, Nat.zero_le _⟩) hE (fun H locs hE => ?_)
  refine lv_istore_n (lv' := [(2, .int x10001), (0, .ref (ad 0)), (1, .int a1)]) hx hb dX8_hurtBy_5 rfl hl (by decide) rfl (fun ls hl => ?_)
  refine lv_aload_n hx hb dX8_hurtBy_6 rfl (lv_at hl 1 rfl) ?_
  refine zr_getA S hK hE zcl_X8 (zm_0 w10002) 24 (Nat.le_of_ble_eq_true rfl) (q := 14) rfl qf_X8_51 dX8_hurtBy_7 ?_
  refine lv_iconst (v := 0) hx hb dX8_hurtBy_10 (by decide) ?_
  refine lv_aload_n hx hb dX8_hurtBy_11 rfl (lv_at hl 1 rfl) ?_
  refine lv_iload_n hx hb dX8_hurtBy_12 rfl (lv_at hl 2 rfl) ?_
  refine lv_iconst (v := 3) hx hb dX8_hurtBy_13 (by decide) ?_
  obtain ⟨x10003, w10004, ew10004, h⟩ := zbd2E h
  refine zr_i (zr_runV (As := [.int a1, .int 3]) S hX hE (kX8_of l D tc lo ad fr zq a1 3 w10002 x10003 w10004 ew10004) zyX8_of qm_X8_103 zcl_X8 rfl (zm_0 w10002) ⟨rfl, rfl⟩ ⟨Nat.le_of_ble_eq_true rfl, Nat.le_of_ble_eq_true rfl⟩ rfl hl.1 rfl (Nat.le_of_ble_eq_true rfl) dX8_hurtBy_14 ⟨Nat.zero_le _, Nat.zero_le _⟩) hE (fun H locs hE => ?_)
  obtain ⟨w10005, ew10005, h⟩ := zbdE h
  refine zr_iast S hK hE (zm_14 w10004) dX8_hurtBy_17 ew10005 (fun H locs hE => ?_)
  refine lv_aload_n hx hb dX8_hurtBy_18 rfl (lv_at hl 1 rfl) ?_
  refine zr_getA S hK hE zcl_X8 (zm_0 w10005) 24 (Nat.le_of_ble_eq_true rfl) (q := 14) rfl qf_X8_51 dX8_hurtBy_19 ?_
  refine lv_iconst (v := 1) hx hb dX8_hurtBy_22 (by decide) ?_
  refine lv_aload_n hx hb dX8_hurtBy_23 rfl (lv_at hl 1 rfl) ?_
  refine zr_getA S hK hE zcl_X8 (zm_0 w10005) 0 (Nat.le_of_ble_eq_true rfl) (q := 1) rfl qf_X8_9 dX8_hurtBy_24 ?_
  refine lv_iconst (v := 4) hx hb dX8_hurtBy_27 (by decide) ?_
  obtain ⟨x10006, ex10006, h⟩ := zbdE h
  refine zr_iald S hK hE (zm_1 w10005) dX8_hurtBy_28 ex10006 ?_
  obtain ⟨w10007, ew10007, h⟩ := zbdE h
  refine zr_iast S hK hE (zm_14 w10005) dX8_hurtBy_29 ew10007 (fun H locs hE => ?_)
  refine lv_aload_n hx hb dX8_hurtBy_30 rfl (lv_at hl 1 rfl) ?_
  refine zr_getA S hK hE zcl_X8 (zm_0 w10007) 24 (Nat.le_of_ble_eq_true rfl) (q := 14) rfl qf_X8_51 dX8_hurtBy_31 ?_
  refine lv_iconst (v := 2) hx hb dX8_hurtBy_34 (by decide) ?_
  refine lv_aload_n hx hb dX8_hurtBy_35 rfl (lv_at hl 1 rfl) ?_
  refine lv_iload_n hx hb dX8_hurtBy_36 rfl (lv_at hl 2 rfl) ?_
  refine lv_iconst (v := 2) hx hb dX8_hurtBy_37 (by decide) ?_
  obtain ⟨x10008, w10009, ew10009, h⟩ := zbd2E h
  refine zr_i (zr_runV (As := [.int a1, .int 2]) S hX hE (kX8_of l D tc lo ad fr zq a1 2 w10007 x10008 w10009 ew10009) zyX8_of qm_X8_103 zcl_X8 rfl (zm_0 w10007) ⟨rfl, rfl⟩ ⟨Nat.le_of_ble_eq_true rfl, Nat.le_of_ble_eq_true rfl⟩ rfl hl.1 rfl (Nat.le_of_ble_eq_true rfl) dX8_hurtBy_38 ⟨Nat.zero_le _, Nat.zero_le _⟩) hE (fun H locs hE => ?_)
  obtain ⟨w10010, ew10010, h⟩ := zbdE h
  refine zr_iast S hK hE (zm_14 w10009) dX8_hurtBy_41 ew10010 (fun H locs hE => ?_)
  refine lv_iload_n hx hb dX8_hurtBy_42 rfl (lv_at hl 0 rfl) ?_
  refine lv_if_ge (tgt := 55) hx hb dX8_hurtBy_43 (by decide) (fun c10011 => ?_) (fun c10011 => ?_)
  · have h := zif c10011 h
    refine lv_aload_n hx hb dX8_hurtBy_55 rfl (lv_at hl 1 rfl) ?_
    refine lv_iload_n hx hb dX8_hurtBy_56 rfl (lv_at hl 0 rfl) ?_
    obtain ⟨x10012, w10013, ew10013, h⟩ := zbd2E h
    refine zr_i (zr_runV (As := [.int x10001]) S hX hE (kX8_worksOut l D tc lo ad fr zq x10001 w10010 x10012 w10013 ew10013) zyX8_worksOut qm_X8_118 zcl_X8 rfl (zm_0 w10010) ⟨rfl, rfl⟩ ⟨Nat.le_of_ble_eq_true rfl, Nat.le_of_ble_eq_true rfl⟩ rfl hl.1 rfl (Nat.le_of_ble_eq_true rfl) dX8_hurtBy_57 ⟨Nat.zero_le _, Nat.zero_le _⟩) hE (fun H locs hE => ?_)
    refine lv_iconst (v := 0) hx hb dX8_hurtBy_60 (by decide) ?_
    refine lv_bipush (v := 99) hx hb dX8_hurtBy_61 (by decide) ?_
    obtain ⟨x10014, w10015, ew10015, h⟩ := zbd2E h
    refine zr_i (zr_runS (As := [.int x10012, .int 0, .int 99]) S hX hE (kX8_within l D tc lo ad fr zq x10012 0 99 w10013 x10014 w10015 ew10015) zyX8_within qm_X8_107 ⟨rfl, rfl⟩ ⟨Nat.le_of_ble_eq_true rfl, Nat.le_of_ble_eq_true rfl⟩ rfl hl.1 rfl (Nat.le_of_ble_eq_true rfl) dX8_hurtBy_63 ⟨Nat.zero_le _, Nat.zero_le _⟩) hE (fun H locs hE => ?_)
    exact J66 a1 x10014 w10015 ls _ _ h (lv_sub hl [1, 2] rfl) hE
  · have h := zif' c10011 h
    refine lv_aload_n hx hb dX8_hurtBy_46 rfl (lv_at hl 1 rfl) ?_
    refine lv_iload_n hx hb dX8_hurtBy_47 rfl (lv_at hl 2 rfl) ?_
    refine lv_iconst (v := 3) hx hb dX8_hurtBy_48 (by decide) ?_
    obtain ⟨x10016, w10017, ew10017, h⟩ := zbd2E h
    refine zr_i (zr_runV (As := [.int a1, .int 3]) S hX hE (kX8_of l D tc lo ad fr zq a1 3 w10010 x10016 w10017 ew10017) zyX8_of qm_X8_103 zcl_X8 rfl (zm_0 w10010) ⟨rfl, rfl⟩ ⟨Nat.le_of_ble_eq_true rfl, Nat.le_of_ble_eq_true rfl⟩ rfl hl.1 rfl (Nat.le_of_ble_eq_true rfl) dX8_hurtBy_49 ⟨Nat.zero_le _, Nat.zero_le _⟩) hE (fun H locs hE => ?_)
    refine lv_goto (tgt := 66) hx hb dX8_hurtBy_52 (by decide) ?_
    exact J66 a1 x10016 w10017 ls _ _ h (lv_sub hl [1, 2] rfl) hE
set_option maxHeartbeats 4000000 in
set_option maxRecDepth 100000 in
theorem kX8_drill (l : Launch) (D : va_G) (tc : Nat → ClassId) (lo : Nat) (ad : Nat → Nat) (fr : va_W) (zq : zz_Q) (a1 : Int32) (a2 : Int32) (w : zz_W) (r : Int32) (w_ : zz_W) (h : fX8_drill a1 a2 w = some (r, w_)) : zMi l yX8_drill cX8_drill 5 (some .int) { frames := 3, cells := 0, slots := 0, locals := 70 } D tc lo ad zshM znnM fr zq [.ref (ad 0), .int a1, .int a2] w r w_ := by
  refine zr_entry (by decide) (Nat.le_of_ble_eq_true rfl) fun p e s m args below meth c ls S hX hr hlk hE hl => ?_
  have S : CallFix p m c cX8_drill 5 s args (Cond.code yX8_drill cX8_drill 5 (some .int) :: zw_tb) RX8 := S
  have hx := S.1
  have hb := S.2.1
  have hK := hX.2.1
  have hl : lv_has ls 5 [(0, .ref (ad 0)), (1, .int a1), (2, .int a2)] := hl
  unfold fX8_drill at h
  refine lv_iload_n hx hb dX8_drill_0 rfl (lv_at hl 1 rfl) ?_
  obtain ⟨x10001, w10002, ew10002, h⟩ := zbd2E h
  refine zr_i (zr_runS (As := [.int a1]) S hX hE (kX8_isCell l D tc lo ad fr zq a1 w x10001 w10002 ew10002) zyX8_isCell qm_X8_89 ⟨rfl, rfl⟩ ⟨Nat.le_of_ble_eq_true rfl, Nat.le_of_ble_eq_true rfl⟩ rfl hl.1 rfl (Nat.le_of_ble_eq_true rfl) dX8_drill_1 ⟨Nat.zero_le _, Nat.zero_le _⟩) hE (fun H locs hE => ?_)
  refine lv_if_eq (tgt := 17) hx hb dX8_drill_4 (by decide) (fun c10003 => ?_) (fun c10003 => ?_)
  · have h := zif c10003 h
    refine zr_ldc S qc_X8_97 dX8_drill_17 ?_
    exact zr_iret S hE hr hlk h dX8_drill_19
  · have h := zif' c10003 h
    refine lv_iload_n hx hb dX8_drill_7 rfl (lv_at hl 2 rfl) ?_
    refine lv_iconst (v := 1) hx hb dX8_drill_8 (by decide) ?_
    refine lv_bipush (v := 9) hx hb dX8_drill_9 (by decide) ?_
    obtain ⟨x10004, w10005, ew10005, h⟩ := zbd2E h
    refine zr_i (zr_runS (As := [.int a2, .int 1, .int 9]) S hX hE (kX8_in l D tc lo ad fr zq a2 1 9 w10002 x10004 w10005 ew10005) zyX8_in qm_X8_81 ⟨rfl, rfl⟩ ⟨Nat.le_of_ble_eq_true rfl, Nat.le_of_ble_eq_true rfl⟩ rfl hl.1 rfl (Nat.le_of_ble_eq_true rfl) dX8_drill_11 ⟨Nat.zero_le _, Nat.zero_le _⟩) hE (fun H locs hE => ?_)
    refine lv_if_ne (tgt := 20) hx hb dX8_drill_14 (by decide) (fun c10006 => ?_) (fun c10006 => ?_)
    · have h := zif' c10006 h
      refine lv_aload_n hx hb dX8_drill_20 rfl (lv_at hl 0 rfl) ?_
      refine zr_getA S hK hE zcl_X8 (zm_0 w10005) 0 (Nat.le_of_ble_eq_true rfl) (q := 1) rfl qf_X8_9 dX8_drill_21 ?_
      refine lv_bipush (v := 12) hx hb dX8_drill_24 (by decide) ?_
      obtain ⟨x10007, ex10007, h⟩ := zbdE h
      refine zr_iald S hK hE (zm_1 w10005) dX8_drill_26 ex10007 ?_
      refine lv_istore_n (lv' := [(3, .int x10007), (0, .ref (ad 0)), (1, .int a1), (2, .int a2)]) hx hb dX8_drill_27 rfl hl (by decide) rfl (fun ls hl => ?_)
      refine lv_iload_n hx hb dX8_drill_28 rfl (lv_at hl 0 rfl) ?_
      refine lv_if_ge (tgt := 35) hx hb dX8_drill_29 (by decide) (fun c10008 => ?_) (fun c10008 => ?_)
      · have h := zif c10008 h
        refine lv_aload_n hx hb dX8_drill_35 rfl (lv_at hl 1 rfl) ?_
        refine zr_getA S hK hE zcl_X8 (zm_0 w10005) 0 (Nat.le_of_ble_eq_true rfl) (q := 1) rfl qf_X8_9 dX8_drill_36 ?_
        refine lv_bipush (v := 7) hx hb dX8_drill_39 (by decide) ?_
        refine lv_dup2_11 hx hb dX8_drill_41 rfl rfl ?_
        obtain ⟨x10009, ex10009, h⟩ := zbdE h
        refine zr_iald S hK hE (zm_1 w10005) dX8_drill_42 ex10009 ?_
        refine lv_iconst (v := 1) hx hb dX8_drill_43 (by decide) ?_
        refine lv_iadd hx hb dX8_drill_44 ?_
        obtain ⟨w10010, ew10010, h⟩ := zbdE h
        refine zr_iast S hK hE (zm_1 w10005) dX8_drill_45 ew10010 (fun H locs hE => ?_)
        refine lv_aload_n hx hb dX8_drill_46 rfl (lv_at hl 1 rfl) ?_
        refine lv_iload_n hx hb dX8_drill_47 rfl (lv_at hl 0 rfl) ?_
        refine lv_iload_n hx hb dX8_drill_48 rfl (lv_at hl 2 rfl) ?_
        obtain ⟨x10011, w10012, ew10012, h⟩ := zbd2E h
        refine zr_i (zr_runV (As := [.int x10007, .int a1]) S hX hE (kX8_doesPass l D tc lo ad fr zq x10007 a1 w10010 x10011 w10012 ew10012) zyX8_doesPass qm_X8_111 zcl_X8 rfl (zm_0 w10010) ⟨rfl, rfl⟩ ⟨Nat.le_of_ble_eq_true rfl, Nat.le_of_ble_eq_true rfl⟩ rfl hl.1 rfl (Nat.le_of_ble_eq_true rfl) dX8_drill_49 ⟨Nat.zero_le _, Nat.zero_le _⟩) hE (fun H locs hE => ?_)
        refine lv_if_eq (tgt := 65) hx hb dX8_drill_52 (by decide) (fun c10013 => ?_) (fun c10013 => ?_)
        · have h := zif c10013 h
          refine lv_iconst (v := 0) hx hb dX8_drill_65 (by decide) ?_
          exact zr_iret S hE hr hlk h dX8_drill_66
        · have h := zif' c10013 h
          refine lv_aload_n hx hb dX8_drill_55 rfl (lv_at hl 1 rfl) ?_
          refine lv_iload_n hx hb dX8_drill_56 rfl (lv_at hl 0 rfl) ?_
          refine lv_iconst (v := 3) hx hb dX8_drill_57 (by decide) ?_
          obtain ⟨x10014, w10015, ew10015, h⟩ := zbd2E h
          refine zr_i (zr_runV (As := [.int x10007, .int 3]) S hX hE (kX8_of l D tc lo ad fr zq x10007 3 w10012 x10014 w10015 ew10015) zyX8_of qm_X8_103 zcl_X8 rfl (zm_0 w10012) ⟨rfl, rfl⟩ ⟨Nat.le_of_ble_eq_true rfl, Nat.le_of_ble_eq_true rfl⟩ rfl hl.1 rfl (Nat.le_of_ble_eq_true rfl) dX8_drill_58 ⟨Nat.zero_le _, Nat.zero_le _⟩) hE (fun H locs hE => ?_)
          refine lv_iload_n hx hb dX8_drill_61 rfl (lv_at hl 3 rfl) ?_
          refine lv_icmp_le (tgt := 67) hx hb dX8_drill_62 (by decide) (fun c10016 => ?_) (fun c10016 => ?_)
          · have h := zif c10016 h
            refine lv_aload_n hx hb dX8_drill_67 rfl (lv_at hl 1 rfl) ?_
            refine lv_iload_n hx hb dX8_drill_68 rfl (lv_at hl 0 rfl) ?_
            obtain ⟨x10017, w10018, ew10018, h⟩ := zbd2E h
            refine zr_i (zr_runV (As := [.int x10007]) S hX hE (kX8_hurtBy l D tc lo ad fr zq x10007 w10015 x10017 w10018 ew10018) zyX8_hurtBy qm_X8_124 zcl_X8 rfl (zm_0 w10015) ⟨rfl, rfl⟩ ⟨Nat.le_of_ble_eq_true rfl, Nat.le_of_ble_eq_true rfl⟩ rfl hl.1 rfl (Nat.le_of_ble_eq_true rfl) dX8_drill_69 ⟨Nat.zero_le _, Nat.zero_le _⟩) hE (fun H locs hE => ?_)
            refine lv_istore (lv' := [(4, .int x10017), (3, .int x10007), (0, .ref (ad 0)), (1, .int a1), (2, .int a2)]) hx hb dX8_drill_72 hl (by decide) rfl (fun ls hl => ?_)
            refine lv_aload_n hx hb dX8_drill_74 rfl (lv_at hl 2 rfl) ?_
            refine zr_getA S hK hE zcl_X8 (zm_0 w10018) 0 (Nat.le_of_ble_eq_true rfl) (q := 1) rfl qf_X8_9 dX8_drill_75 ?_
            refine lv_bipush (v := 6) hx hb dX8_drill_78 (by decide) ?_
            refine lv_dup2_11 hx hb dX8_drill_80 rfl rfl ?_
            obtain ⟨x10019, ex10019, h⟩ := zbdE h
            refine zr_iald S hK hE (zm_1 w10018) dX8_drill_81 ex10019 ?_
            refine lv_iconst (v := 1) hx hb dX8_drill_82 (by decide) ?_
            refine lv_iadd hx hb dX8_drill_83 ?_
            obtain ⟨w10020, ew10020, h⟩ := zbdE h
            refine zr_iast S hK hE (zm_1 w10018) dX8_drill_84 ew10020 (fun H locs hE => ?_)
            refine lv_aload_n hx hb dX8_drill_85 rfl (lv_at hl 2 rfl) ?_
            refine zr_getA S hK hE zcl_X8 (zm_0 w10020) 0 (Nat.le_of_ble_eq_true rfl) (q := 1) rfl qf_X8_9 dX8_drill_86 ?_
            refine lv_iconst (v := 5) hx hb dX8_drill_89 (by decide) ?_
            refine lv_dup2_11 hx hb dX8_drill_90 rfl rfl ?_
            obtain ⟨x10021, ex10021, h⟩ := zbdE h
            refine zr_iald S hK hE (zm_1 w10020) dX8_drill_91 ex10021 ?_
            refine lv_iload hx hb dX8_drill_92 (lv_at hl 0 rfl) ?_
            refine lv_iadd hx hb dX8_drill_94 ?_
            obtain ⟨w10022, ew10022, h⟩ := zbdE h
            refine zr_iast S hK hE (zm_1 w10020) dX8_drill_95 ew10022 (fun H locs hE => ?_)
            refine lv_iload hx hb dX8_drill_96 (lv_at hl 0 rfl) ?_
            exact zr_iret S hE hr hlk h dX8_drill_98
          · have h := zif' c10016 h
            refine lv_iconst (v := 0) hx hb dX8_drill_65 (by decide) ?_
            exact zr_iret S hE hr hlk h dX8_drill_66
      · have h := zif' c10008 h
        refine zr_ldc S qc_X8_154 dX8_drill_32 ?_
        exact zr_iret S hE hr hlk h dX8_drill_34
    · have h := zif c10006 h
      refine zr_ldc S qc_X8_97 dX8_drill_17 ?_
      exact zr_iret S hE hr hlk h dX8_drill_19
set_option maxHeartbeats 4000000 in
set_option maxRecDepth 100000 in
theorem kX8_fee (l : Launch) (D : va_G) (tc : Nat → ClassId) (lo : Nat) (ad : Nat → Nat) (fr : va_W) (zq : zz_Q) (w : zz_W) (r : Int32) (w_ : zz_W) (h : fX8_fee w = some (r, w_)) : zMi l yX8_fee cX8_fee 2 (some .int) { frames := 2, cells := 0, slots := 0, locals := 47 } D tc lo ad zshM znnM fr zq [.ref (ad 0)] w r w_ := by
  refine zr_entry (by decide) (Nat.le_of_ble_eq_true rfl) fun p e s m args below meth c ls S hX hr hlk hE hl => ?_
  have S : CallFix p m c cX8_fee 2 s args (Cond.code yX8_fee cX8_fee 2 (some .int) :: zw_tb) RX8 := S
  have hx := S.1
  have hb := S.2.1
  have hK := hX.2.1
  have hl : lv_has ls 2 [(0, .ref (ad 0))] := hl
  unfold fX8_fee at h
  refine lv_aload_n hx hb dX8_fee_0 rfl (lv_at hl 0 rfl) ?_
  refine lv_iconst (v := 1) hx hb dX8_fee_1 (by decide) ?_
  obtain ⟨x10001, w10002, ew10002, h⟩ := zbd2E h
  refine zr_i (zr_runV (As := [.int 1]) S hX hE (kX8_counts l D tc lo ad fr zq 1 w x10001 w10002 ew10002) zyX8_counts qm_X8_114 zcl_X8 rfl (zm_0 w) ⟨rfl, rfl⟩ ⟨Nat.le_of_ble_eq_true rfl, Nat.le_of_ble_eq_true rfl⟩ rfl hl.1 rfl (Nat.le_of_ble_eq_true rfl) dX8_fee_2 ⟨Nat.zero_le _, Nat.zero_le _⟩) hE (fun H locs hE => ?_)
  refine lv_istore_n (lv' := [(1, .int x10001), (0, .ref (ad 0))]) hx hb dX8_fee_5 rfl hl (by decide) rfl (fun ls hl => ?_)
  refine lv_aload_n hx hb dX8_fee_6 rfl (lv_at hl 1 rfl) ?_
  refine zr_getA S hK hE zcl_X8 (zm_0 w10002) 24 (Nat.le_of_ble_eq_true rfl) (q := 14) rfl qf_X8_51 dX8_fee_7 ?_
  refine lv_iconst (v := 0) hx hb dX8_fee_10 (by decide) ?_
  refine lv_aload_n hx hb dX8_fee_11 rfl (lv_at hl 1 rfl) ?_
  refine zr_getA S hK hE zcl_X8 (zm_0 w10002) 0 (Nat.le_of_ble_eq_true rfl) (q := 1) rfl qf_X8_9 dX8_fee_12 ?_
  refine lv_iconst (v := 5) hx hb dX8_fee_15 (by decide) ?_
  obtain ⟨x10003, ex10003, h⟩ := zbdE h
  refine zr_iald S hK hE (zm_1 w10002) dX8_fee_16 ex10003 ?_
  obtain ⟨w10004, ew10004, h⟩ := zbdE h
  refine zr_iast S hK hE (zm_14 w10002) dX8_fee_17 ew10004 (fun H locs hE => ?_)
  refine lv_aload_n hx hb dX8_fee_18 rfl (lv_at hl 1 rfl) ?_
  refine zr_getA S hK hE zcl_X8 (zm_0 w10004) 24 (Nat.le_of_ble_eq_true rfl) (q := 14) rfl qf_X8_51 dX8_fee_19 ?_
  refine lv_iconst (v := 1) hx hb dX8_fee_22 (by decide) ?_
  refine lv_aload_n hx hb dX8_fee_23 rfl (lv_at hl 1 rfl) ?_
  refine zr_getA S hK hE zcl_X8 (zm_0 w10004) 0 (Nat.le_of_ble_eq_true rfl) (q := 1) rfl qf_X8_9 dX8_fee_24 ?_
  refine lv_bipush (v := 8) hx hb dX8_fee_27 (by decide) ?_
  obtain ⟨x10005, ex10005, h⟩ := zbdE h
  refine zr_iald S hK hE (zm_1 w10004) dX8_fee_29 ex10005 ?_
  obtain ⟨w10006, ew10006, h⟩ := zbdE h
  refine zr_iast S hK hE (zm_14 w10004) dX8_fee_30 ew10006 (fun H locs hE => ?_)
  refine lv_iload_n hx hb dX8_fee_31 rfl (lv_at hl 0 rfl) ?_
  refine lv_if_ge (tgt := 44) hx hb dX8_fee_32 (by decide) (fun c10007 => ?_) (fun c10007 => ?_)
  · have h := zif c10007 h
    refine lv_aload_n hx hb dX8_fee_44 rfl (lv_at hl 1 rfl) ?_
    refine lv_iload_n hx hb dX8_fee_45 rfl (lv_at hl 0 rfl) ?_
    obtain ⟨x10008, w10009, ew10009, h⟩ := zbd2E h
    refine zr_i (zr_runV (As := [.int x10001]) S hX hE (kX8_worksOut l D tc lo ad fr zq x10001 w10006 x10008 w10009 ew10009) zyX8_worksOut qm_X8_118 zcl_X8 rfl (zm_0 w10006) ⟨rfl, rfl⟩ ⟨Nat.le_of_ble_eq_true rfl, Nat.le_of_ble_eq_true rfl⟩ rfl hl.1 rfl (Nat.le_of_ble_eq_true rfl) dX8_fee_46 ⟨Nat.zero_le _, Nat.zero_le _⟩) hE (fun H locs hE => ?_)
    exact zr_iret S hE hr hlk h dX8_fee_49
  · have h := zif' c10007 h
    refine lv_aload_n hx hb dX8_fee_35 rfl (lv_at hl 1 rfl) ?_
    refine zr_getA S hK hE zcl_X8 (zm_0 w10006) 0 (Nat.le_of_ble_eq_true rfl) (q := 1) rfl qf_X8_9 dX8_fee_36 ?_
    refine lv_iconst (v := 5) hx hb dX8_fee_39 (by decide) ?_
    obtain ⟨x10010, ex10010, h⟩ := zbdE h
    refine zr_iald S hK hE (zm_1 w10006) dX8_fee_40 ex10010 ?_
    refine lv_goto (tgt := 49) hx hb dX8_fee_41 (by decide) ?_
    exact zr_iret S hE hr hlk h dX8_fee_49
set_option maxHeartbeats 4000000 in
set_option maxRecDepth 100000 in
theorem kX8_feed (l : Launch) (D : va_G) (tc : Nat → ClassId) (lo : Nat) (ad : Nat → Nat) (fr : va_W) (zq : zz_Q) (a1 : Int32) (a2 : Int32) (a3 : Int32) (w : zz_W) (r : Int32) (w_ : zz_W) (h : fX8_feed a1 a2 a3 w = some (r, w_)) : zMi l yX8_feed cX8_feed 6 (some .int) { frames := 0, cells := 0, slots := 0, locals := 0 } D tc lo ad zshM znnM fr zq [.ref (ad 0), .int a1, .int a2, .int a3] w r w_ := by
  refine zr_entry (by decide) (Nat.le_of_ble_eq_true rfl) fun p e s m args below meth c ls S hX hr hlk hE hl => ?_
  have S : CallFix p m c cX8_feed 6 s args (Cond.code yX8_feed cX8_feed 6 (some .int) :: zw_tb) RX8 := S
  have hx := S.1
  have hb := S.2.1
  have hK := hX.2.1
  have hl : lv_has ls 6 [(0, .ref (ad 0)), (1, .int a1), (2, .int a2), (3, .int a3)] := hl
  unfold fX8_feed at h
  have L18 : ∀ (n : Nat) (l1 : Int32) (l2 : Int32) (l3 : Int32) (l4 : Int32) (w : zz_W) (ls : Array Slot) (H : Heap) (locs : List Loc), fX8_feed_18 a1 a2 a3 n l1 l2 l3 l4 w = some (r, w_) → lv_has ls 6 [(0, .ref (ad 0)), (1, .int l1), (2, .int l2), (3, .int l3), (4, .int l4)] → zE D tc lo ad zshM znnM fr w s.heap H locs → W p l e { frames := 0, cells := 0, slots := 0, locals := 0 } s m args below meth c H locs 0 0 (zZi D tc lo ad zshM znnM fr below args s r w_) (F0 m 18 ls []) := by
    intro n18
    induction n18 with
    | zero => intro l1 l2 l3 l4 w ls H locs h hl hE; rw [fX8_feed_18] at h; cases h
    | succ n18 ih18 =>
      intro l1 l2 l3 l4 w ls H locs h hl hE
      rw [fX8_feed_18] at h
      have J47 : ∀ (l1 : Int32) (l2 : Int32) (l3 : Int32) (l4 : Int32) (s0 : Int32) (w : zz_W) (ls : Array Slot) (H : Heap) (locs : List Loc), fX8_feed_47 a1 a2 a3 (fX8_feed_18 a1 a2 a3 n18) l1 l2 l3 l4 s0 w = some (r, w_) → lv_has ls 6 [(0, .ref (ad 0)), (1, .int l1), (2, .int l2), (3, .int l3), (4, .int l4)] → zE D tc lo ad zshM znnM fr w s.heap H locs → W p l e { frames := 0, cells := 0, slots := 0, locals := 0 } s m args below meth c H locs 0 0 (zZi D tc lo ad zshM znnM fr below args s r w_) (F0 m 47 ls [.int s0]) := by
        intro l1 l2 l3 l4 s0 w ls H locs h hl hE
        unfold fX8_feed_47 at h
        refine lv_istore (lv' := [(5, .int s0), (0, .ref (ad 0)), (1, .int l1), (2, .int l2), (3, .int l3), (4, .int l4)]) hx hb dX8_feed_47 hl (by decide) rfl (fun ls hl => ?_)
        refine lv_aload_n hx hb dX8_feed_49 rfl (lv_at hl 1 rfl) ?_
        refine zr_getA S hK hE zcl_X8 (zm_0 w) 7 (Nat.le_of_ble_eq_true rfl) (q := 7) rfl qf_X8_28 dX8_feed_50 ?_
        refine lv_aload_n hx hb dX8_feed_53 rfl (lv_at hl 1 rfl) ?_
        obtain ⟨x25, ex25, h⟩ := zbdE h
        refine zr_getI S hK hE zcl_X8 (zm_0 w) 8 (Nat.le_of_ble_eq_true rfl) rfl qf_X8_222 dX8_feed_54 ex25 ?_
        refine lv_iload hx hb dX8_feed_57 (lv_at hl 5 rfl) ?_
        refine lv_iadd hx hb dX8_feed_59 ?_
        refine lv_iload hx hb dX8_feed_60 (lv_at hl 0 rfl) ?_
        refine lv_bipush (v := 24) hx hb dX8_feed_62 (by decide) ?_
        refine lv_bipush (v := 8) hx hb dX8_feed_64 (by decide) ?_
        refine lv_iload hx hb dX8_feed_66 (lv_at hl 5 rfl) ?_
        refine lv_iconst (v := 4) hx hb dX8_feed_68 (by decide) ?_
        obtain ⟨x26, ex26, h⟩ := zbdE h
        refine zr_irem hx hb dX8_feed_69 ex26 ?_
        refine lv_imul hx hb dX8_feed_70 ?_
        refine lv_isub hx hb dX8_feed_71 ?_
        refine lv_ishr hx hb dX8_feed_72 ?_
        refine lv_sipush (v := 255) hx hb dX8_feed_73 (by decide) ?_
        refine lv_iand hx hb dX8_feed_76 ?_
        obtain ⟨w27, ew27, h⟩ := zbdE h
        refine zr_iast S hK hE (zm_7 w) dX8_feed_77 ew27 (fun H locs hE => ?_)
        obtain ⟨x28, ex28, h⟩ := zbdE h
        refine lv_iinc (v := x28) (lv' := [(4, .int x28), (5, .int s0), (0, .ref (ad 0)), (1, .int l1), (2, .int l2), (3, .int l3)]) hx hb dX8_feed_78 hl (k := 5) rfl (zinc (k := 1) (by decide) ex28) (by decide) rfl (fun ls hl => ?_)
        refine lv_goto (tgt := 18) hx hb dX8_feed_81 (by decide) ?_
        exact ih18 l1 l2 l3 x28 w27 ls _ _ h (lv_sub hl [2, 3, 4, 5, 0] rfl) hE
      refine lv_iload hx hb dX8_feed_18 (lv_at hl 4 rfl) ?_
      refine lv_bipush (v := 12) hx hb dX8_feed_20 (by decide) ?_
      refine lv_icmp_ge (tgt := 84) hx hb dX8_feed_22 (by decide) (fun c29 => ?_) (fun c29 => ?_)
      · have h := zif c29 h
        refine lv_aload_n hx hb dX8_feed_84 rfl (lv_at hl 0 rfl) ?_
        refine lv_dup hx hb dX8_feed_85 rfl ?_
        obtain ⟨x30, ex30, h⟩ := zbdE h
        refine zr_getI S hK hE zcl_X8 (zm_0 w) 8 (Nat.le_of_ble_eq_true rfl) rfl qf_X8_222 dX8_feed_86 ex30 ?_
        refine lv_bipush (v := 12) hx hb dX8_feed_89 (by decide) ?_
        refine lv_iadd hx hb dX8_feed_91 ?_
        obtain ⟨w31, ew31, h⟩ := zbdE h
        refine zr_putI S hK hE zcl_X8 (zm_0 w) 8 (Nat.le_of_ble_eq_true rfl) rfl rfl rfl qf_X8_222 dX8_feed_92 ew31 (fun H locs hE => ?_)
        refine lv_aload_n hx hb dX8_feed_95 rfl (lv_at hl 0 rfl) ?_
        obtain ⟨x32, ex32, h⟩ := zbdE h
        refine zr_getI S hK hE zcl_X8 (zm_0 w31) 8 (Nat.le_of_ble_eq_true rfl) rfl qf_X8_222 dX8_feed_96 ex32 ?_
        exact zr_iret S hE hr hlk h dX8_feed_99
      · have h := zif' c29 h
        refine lv_iload hx hb dX8_feed_25 (lv_at hl 4 rfl) ?_
        refine lv_iconst (v := 4) hx hb dX8_feed_27 (by decide) ?_
        refine lv_icmp_ge (tgt := 35) hx hb dX8_feed_28 (by decide) (fun c33 => ?_) (fun c33 => ?_)
        · have h := zif c33 h
          refine lv_iload hx hb dX8_feed_35 (lv_at hl 4 rfl) ?_
          refine lv_bipush (v := 8) hx hb dX8_feed_37 (by decide) ?_
          refine lv_icmp_ge (tgt := 46) hx hb dX8_feed_39 (by decide) (fun c34 => ?_) (fun c34 => ?_)
          · have h := zif c34 h
            refine lv_iload_n hx hb dX8_feed_46 rfl (lv_at hl 3 rfl) ?_
            exact J47 l1 l2 l3 l4 l3 w ls _ _ h (lv_sub hl [0, 1, 2, 3, 4] rfl) hE
          · have h := zif' c34 h
            refine lv_iload_n hx hb dX8_feed_42 rfl (lv_at hl 2 rfl) ?_
            refine lv_goto (tgt := 47) hx hb dX8_feed_43 (by decide) ?_
            exact J47 l1 l2 l3 l4 l2 w ls _ _ h (lv_sub hl [0, 1, 2, 3, 4] rfl) hE
        · have h := zif' c33 h
          refine lv_iload_n hx hb dX8_feed_31 rfl (lv_at hl 1 rfl) ?_
          refine lv_goto (tgt := 47) hx hb dX8_feed_32 (by decide) ?_
          exact J47 l1 l2 l3 l4 l1 w ls _ _ h (lv_sub hl [0, 1, 2, 3, 4] rfl) hE
  refine lv_aload_n hx hb dX8_feed_0 rfl (lv_at hl 0 rfl) ?_
  obtain ⟨x10001, ex10001, h⟩ := zbdE h
  refine zr_getI S hK hE zcl_X8 (zm_0 w) 8 (Nat.le_of_ble_eq_true rfl) rfl qf_X8_222 dX8_feed_1 ex10001 ?_
  refine lv_bipush (v := 12) hx hb dX8_feed_4 (by decide) ?_
  refine lv_iadd hx hb dX8_feed_6 ?_
  refine lv_bipush (v := 96) hx hb dX8_feed_7 (by decide) ?_
  refine lv_icmp_le (tgt := 15) hx hb dX8_feed_9 (by decide) (fun c10002 => ?_) (fun c10002 => ?_)
  · have h := zif c10002 h
    refine lv_iconst (v := 0) hx hb dX8_feed_15 (by decide) ?_
    refine lv_istore (lv' := [(4, .int 0), (0, .ref (ad 0)), (1, .int a1), (2, .int a2), (3, .int a3)]) hx hb dX8_feed_16 hl (by decide) rfl (fun ls hl => ?_)
    exact L18 zfuel a1 a2 a3 0 w ls _ _ h (lv_sub hl [1, 2, 3, 4, 0] rfl) hE
  · have h := zif' c10002 h
    refine zr_ldc S qc_X8_98 dX8_feed_12 ?_
    exact zr_iret S hE hr hlk h dX8_feed_14
set_option maxHeartbeats 4000000 in
set_option maxRecDepth 100000 in
theorem kX8_fine (l : Launch) (D : va_G) (tc : Nat → ClassId) (lo : Nat) (ad : Nat → Nat) (fr : va_W) (zq : zz_Q) (a1 : Int32) (w : zz_W) (r : Int32) (w_ : zz_W) (h : fX8_fine a1 w = some (r, w_)) : zMi l yX8_fine cX8_fine 3 (some .int) { frames := 2, cells := 0, slots := 0, locals := 47 } D tc lo ad zshM znnM fr zq [.ref (ad 0), .int a1] w r w_ := by
  refine zr_entry (by decide) (Nat.le_of_ble_eq_true rfl) fun p e s m args below meth c ls S hX hr hlk hE hl => ?_
  have S : CallFix p m c cX8_fine 3 s args (Cond.code yX8_fine cX8_fine 3 (some .int) :: zw_tb) RX8 := S
  have hx := S.1
  have hb := S.2.1
  have hK := hX.2.1
  have hl : lv_has ls 3 [(0, .ref (ad 0)), (1, .int a1)] := hl
  unfold fX8_fine at h
  refine lv_aload_n hx hb dX8_fine_0 rfl (lv_at hl 0 rfl) ?_
  refine lv_iload_n hx hb dX8_fine_1 rfl (lv_at hl 1 rfl) ?_
  obtain ⟨x10001, w10002, ew10002, h⟩ := zbd2E h
  refine zr_i (zr_runV (As := [.int a1]) S hX hE (kX8_isRun l D tc lo ad fr zq a1 w x10001 w10002 ew10002) zyX8_isRun qm_X8_121 zcl_X8 rfl (zm_0 w) ⟨rfl, rfl⟩ ⟨Nat.le_of_ble_eq_true rfl, Nat.le_of_ble_eq_true rfl⟩ rfl hl.1 rfl (Nat.le_of_ble_eq_true rfl) dX8_fine_2 ⟨Nat.zero_le _, Nat.zero_le _⟩) hE (fun H locs hE => ?_)
  refine lv_if_ne (tgt := 11) hx hb dX8_fine_5 (by decide) (fun c10003 => ?_) (fun c10003 => ?_)
  · have h := zif' c10003 h
    refine lv_aload_n hx hb dX8_fine_11 rfl (lv_at hl 0 rfl) ?_
    refine lv_iconst (v := 2) hx hb dX8_fine_12 (by decide) ?_
    obtain ⟨x10004, w10005, ew10005, h⟩ := zbd2E h
    refine zr_i (zr_runV (As := [.int 2]) S hX hE (kX8_counts l D tc lo ad fr zq 2 w10002 x10004 w10005 ew10005) zyX8_counts qm_X8_114 zcl_X8 rfl (zm_0 w10002) ⟨rfl, rfl⟩ ⟨Nat.le_of_ble_eq_true rfl, Nat.le_of_ble_eq_true rfl⟩ rfl hl.1 rfl (Nat.le_of_ble_eq_true rfl) dX8_fine_13 ⟨Nat.zero_le _, Nat.zero_le _⟩) hE (fun H locs hE => ?_)
    refine lv_istore_n (lv' := [(2, .int x10004), (0, .ref (ad 0)), (1, .int a1)]) hx hb dX8_fine_16 rfl hl (by decide) rfl (fun ls hl => ?_)
    refine lv_aload_n hx hb dX8_fine_17 rfl (lv_at hl 1 rfl) ?_
    refine zr_getA S hK hE zcl_X8 (zm_0 w10005) 24 (Nat.le_of_ble_eq_true rfl) (q := 14) rfl qf_X8_51 dX8_fine_18 ?_
    refine lv_iconst (v := 0) hx hb dX8_fine_21 (by decide) ?_
    refine lv_aload_n hx hb dX8_fine_22 rfl (lv_at hl 1 rfl) ?_
    refine lv_iload_n hx hb dX8_fine_23 rfl (lv_at hl 2 rfl) ?_
    refine lv_iconst (v := 4) hx hb dX8_fine_24 (by decide) ?_
    obtain ⟨x10006, w10007, ew10007, h⟩ := zbd2E h
    refine zr_i (zr_runV (As := [.int a1, .int 4]) S hX hE (kX8_of l D tc lo ad fr zq a1 4 w10005 x10006 w10007 ew10007) zyX8_of qm_X8_103 zcl_X8 rfl (zm_0 w10005) ⟨rfl, rfl⟩ ⟨Nat.le_of_ble_eq_true rfl, Nat.le_of_ble_eq_true rfl⟩ rfl hl.1 rfl (Nat.le_of_ble_eq_true rfl) dX8_fine_25 ⟨Nat.zero_le _, Nat.zero_le _⟩) hE (fun H locs hE => ?_)
    obtain ⟨w10008, ew10008, h⟩ := zbdE h
    refine zr_iast S hK hE (zm_14 w10007) dX8_fine_28 ew10008 (fun H locs hE => ?_)
    refine lv_aload_n hx hb dX8_fine_29 rfl (lv_at hl 1 rfl) ?_
    refine zr_getA S hK hE zcl_X8 (zm_0 w10008) 24 (Nat.le_of_ble_eq_true rfl) (q := 14) rfl qf_X8_51 dX8_fine_30 ?_
    refine lv_iconst (v := 1) hx hb dX8_fine_33 (by decide) ?_
    refine lv_aload_n hx hb dX8_fine_34 rfl (lv_at hl 1 rfl) ?_
    refine lv_iload_n hx hb dX8_fine_35 rfl (lv_at hl 2 rfl) ?_
    refine lv_iconst (v := 3) hx hb dX8_fine_36 (by decide) ?_
    obtain ⟨x10009, w10010, ew10010, h⟩ := zbd2E h
    refine zr_i (zr_runV (As := [.int a1, .int 3]) S hX hE (kX8_of l D tc lo ad fr zq a1 3 w10008 x10009 w10010 ew10010) zyX8_of qm_X8_103 zcl_X8 rfl (zm_0 w10008) ⟨rfl, rfl⟩ ⟨Nat.le_of_ble_eq_true rfl, Nat.le_of_ble_eq_true rfl⟩ rfl hl.1 rfl (Nat.le_of_ble_eq_true rfl) dX8_fine_37 ⟨Nat.zero_le _, Nat.zero_le _⟩) hE (fun H locs hE => ?_)
    obtain ⟨w10011, ew10011, h⟩ := zbdE h
    refine zr_iast S hK hE (zm_14 w10010) dX8_fine_40 ew10011 (fun H locs hE => ?_)
    refine lv_iload_n hx hb dX8_fine_41 rfl (lv_at hl 0 rfl) ?_
    refine lv_if_ge (tgt := 54) hx hb dX8_fine_42 (by decide) (fun c10012 => ?_) (fun c10012 => ?_)
    · have h := zif c10012 h
      refine lv_aload_n hx hb dX8_fine_54 rfl (lv_at hl 1 rfl) ?_
      refine lv_iload_n hx hb dX8_fine_55 rfl (lv_at hl 0 rfl) ?_
      obtain ⟨x10013, w10014, ew10014, h⟩ := zbd2E h
      refine zr_i (zr_runV (As := [.int x10004]) S hX hE (kX8_worksOut l D tc lo ad fr zq x10004 w10011 x10013 w10014 ew10014) zyX8_worksOut qm_X8_118 zcl_X8 rfl (zm_0 w10011) ⟨rfl, rfl⟩ ⟨Nat.le_of_ble_eq_true rfl, Nat.le_of_ble_eq_true rfl⟩ rfl hl.1 rfl (Nat.le_of_ble_eq_true rfl) dX8_fine_56 ⟨Nat.zero_le _, Nat.zero_le _⟩) hE (fun H locs hE => ?_)
      exact zr_iret S hE hr hlk h dX8_fine_59
    · have h := zif' c10012 h
      refine lv_aload_n hx hb dX8_fine_45 rfl (lv_at hl 1 rfl) ?_
      refine lv_iload_n hx hb dX8_fine_46 rfl (lv_at hl 2 rfl) ?_
      refine lv_iconst (v := 4) hx hb dX8_fine_47 (by decide) ?_
      obtain ⟨x10015, w10016, ew10016, h⟩ := zbd2E h
      refine zr_i (zr_runV (As := [.int a1, .int 4]) S hX hE (kX8_of l D tc lo ad fr zq a1 4 w10011 x10015 w10016 ew10016) zyX8_of qm_X8_103 zcl_X8 rfl (zm_0 w10011) ⟨rfl, rfl⟩ ⟨Nat.le_of_ble_eq_true rfl, Nat.le_of_ble_eq_true rfl⟩ rfl hl.1 rfl (Nat.le_of_ble_eq_true rfl) dX8_fine_48 ⟨Nat.zero_le _, Nat.zero_le _⟩) hE (fun H locs hE => ?_)
      refine lv_goto (tgt := 59) hx hb dX8_fine_51 (by decide) ?_
      exact zr_iret S hE hr hlk h dX8_fine_59
  · have h := zif c10003 h
    refine zr_ldc S qc_X8_97 dX8_fine_8 ?_
    exact zr_iret S hE hr hlk h dX8_fine_10
set_option maxHeartbeats 4000000 in
set_option maxRecDepth 100000 in
theorem kX8_fitsOf (l : Launch) (D : va_G) (tc : Nat → ClassId) (lo : Nat) (ad : Nat → Nat) (fr : va_W) (zq : zz_Q) (a1 : Int32) (a2 : Int32) (w : zz_W) (r : Int32) (w_ : zz_W) (h : fX8_fitsOf a1 a2 w = some (r, w_)) : zMi l yX8_fitsOf cX8_fitsOf 6 (some .int) { frames := 2, cells := 0, slots := 0, locals := 47 } D tc lo ad zshM znnM fr zq [.ref (ad 0), .int a1, .int a2] w r w_ := by
  refine zr_entry (by decide) (Nat.le_of_ble_eq_true rfl) fun p e s m args below meth c ls S hX hr hlk hE hl => ?_
  have S : CallFix p m c cX8_fitsOf 6 s args (Cond.code yX8_fitsOf cX8_fitsOf 6 (some .int) :: zw_tb) RX8 := S
  have hx := S.1
  have hb := S.2.1
  have hK := hX.2.1
  have hl : lv_has ls 6 [(0, .ref (ad 0)), (1, .int a1), (2, .int a2)] := hl
  unfold fX8_fitsOf at h
  have L5 : ∀ (n : Nat) (l1 : Int32) (l2 : Int32) (l3 : Int32) (l4 : Int32) (w : zz_W) (ls : Array Slot) (H : Heap) (locs : List Loc), fX8_fitsOf_5 a1 a2 n l1 l2 l3 l4 w = some (r, w_) → lv_has ls 6 [(0, .ref (ad 0)), (1, .int l1), (2, .int l2), (3, .int l3), (4, .int l4)] → zE D tc lo ad zshM znnM fr w s.heap H locs → W p l e { frames := 2, cells := 0, slots := 0, locals := 47 } s m args below meth c H locs 0 0 (zZi D tc lo ad zshM znnM fr below args s r w_) (F0 m 5 ls []) := by
    intro n5
    induction n5 with
    | zero => intro l1 l2 l3 l4 w ls H locs h hl hE; rw [fX8_fitsOf_5] at h; cases h
    | succ n5 ih5 =>
      intro l1 l2 l3 l4 w ls H locs h hl hE
      rw [fX8_fitsOf_5] at h
      refine lv_iload hx hb dX8_fitsOf_5 (lv_at hl 4 rfl) ?_
      refine lv_aload_n hx hb dX8_fitsOf_7 rfl (lv_at hl 0 rfl) ?_
      refine zr_getA S hK hE zcl_X8 (zm_0 w) 26 (Nat.le_of_ble_eq_true rfl) (q := 16) rfl qf_X8_57 dX8_fitsOf_8 ?_
      refine lv_iload_n hx hb dX8_fitsOf_11 rfl (lv_at hl 1 rfl) ?_
      obtain ⟨x31, ex31, h⟩ := zbdE h
      refine zr_iald S hK hE (zm_16 w) dX8_fitsOf_12 ex31 ?_
      refine lv_icmp_ge (tgt := 62) hx hb dX8_fitsOf_13 (by decide) (fun c32 => ?_) (fun c32 => ?_)
      · have h := zif c32 h
        refine lv_iload_n hx hb dX8_fitsOf_62 rfl (lv_at hl 3 rfl) ?_
        exact zr_iret S hE hr hlk h dX8_fitsOf_63
      · have h := zif' c32 h
        refine lv_aload_n hx hb dX8_fitsOf_16 rfl (lv_at hl 0 rfl) ?_
        refine zr_getA S hK hE zcl_X8 (zm_0 w) 27 (Nat.le_of_ble_eq_true rfl) (q := 17) rfl qf_X8_60 dX8_fitsOf_17 ?_
        refine lv_bipush (v := 24) hx hb dX8_fitsOf_20 (by decide) ?_
        refine lv_iload_n hx hb dX8_fitsOf_22 rfl (lv_at hl 1 rfl) ?_
        refine lv_imul hx hb dX8_fitsOf_23 ?_
        refine lv_iload hx hb dX8_fitsOf_24 (lv_at hl 4 rfl) ?_
        refine lv_iadd hx hb dX8_fitsOf_26 ?_
        obtain ⟨x33, ex33, h⟩ := zbdE h
        refine zr_iald S hK hE (zm_17 w) dX8_fitsOf_27 ex33 ?_
        refine lv_istore (lv' := [(5, .int x33), (0, .ref (ad 0)), (1, .int l1), (2, .int l2), (3, .int l3), (4, .int l4)]) hx hb dX8_fitsOf_28 hl (by decide) rfl (fun ls hl => ?_)
        refine lv_iload_n hx hb dX8_fitsOf_30 rfl (lv_at hl 4 rfl) ?_
        refine lv_iload hx hb dX8_fitsOf_31 (lv_at hl 0 rfl) ?_
        obtain ⟨x34, w35, ew35, h⟩ := zbd2E h
        refine zr_i (zr_runS (As := [.int x33]) S hX hE (kX8_isCell l D tc lo ad fr zq x33 w x34 w35 ew35) zyX8_isCell qm_X8_89 ⟨rfl, rfl⟩ ⟨Nat.le_of_ble_eq_true rfl, Nat.le_of_ble_eq_true rfl⟩ rfl hl.1 rfl (Nat.le_of_ble_eq_true rfl) dX8_fitsOf_33 ⟨Nat.zero_le _, Nat.zero_le _⟩) hE (fun H locs hE => ?_)
        refine lv_if_eq (tgt := 53) hx hb dX8_fitsOf_36 (by decide) (fun c36 => ?_) (fun c36 => ?_)
        · have h := zif c36 h
          refine lv_iconst (v := 0) hx hb dX8_fitsOf_53 (by decide) ?_
          refine lv_iadd hx hb dX8_fitsOf_54 ?_
          obtain ⟨x37, ex37, h⟩ := zbdE h
          refine zr_topi ex37 ?_
          refine lv_istore_n (lv' := [(3, .int x37), (5, .int x33), (0, .ref (ad 0)), (1, .int l1), (2, .int l2), (4, .int l4)]) hx hb dX8_fitsOf_55 rfl hl (by decide) rfl (fun ls hl => ?_)
          obtain ⟨x38, ex38, h⟩ := zbdE h
          refine lv_iinc (v := x38) (lv' := [(4, .int x38), (3, .int x37), (5, .int x33), (0, .ref (ad 0)), (1, .int l1), (2, .int l2)]) hx hb dX8_fitsOf_56 hl (k := 5) rfl (zinc (k := 1) (by decide) ex38) (by decide) rfl (fun ls hl => ?_)
          refine lv_goto (tgt := 5) hx hb dX8_fitsOf_59 (by decide) ?_
          exact ih5 l1 l2 x37 x38 w35 ls _ _ h (lv_sub hl [3, 4, 5, 1, 0] rfl) hE
        · have h := zif' c36 h
          refine lv_aload_n hx hb dX8_fitsOf_39 rfl (lv_at hl 1 rfl) ?_
          refine lv_iload_n hx hb dX8_fitsOf_40 rfl (lv_at hl 3 rfl) ?_
          refine lv_iload hx hb dX8_fitsOf_41 (lv_at hl 0 rfl) ?_
          obtain ⟨x39, w40, ew40, h⟩ := zbd2E h
          refine zr_i (zr_runV (As := [.int l2, .int x33]) S hX hE (kX8_doesPass l D tc lo ad fr zq l2 x33 w35 x39 w40 ew40) zyX8_doesPass qm_X8_111 zcl_X8 rfl (zm_0 w35) ⟨rfl, rfl⟩ ⟨Nat.le_of_ble_eq_true rfl, Nat.le_of_ble_eq_true rfl⟩ rfl hl.1 rfl (Nat.le_of_ble_eq_true rfl) dX8_fitsOf_43 ⟨Nat.zero_le _, Nat.zero_le _⟩) hE (fun H locs hE => ?_)
          refine lv_if_eq (tgt := 53) hx hb dX8_fitsOf_46 (by decide) (fun c41 => ?_) (fun c41 => ?_)
          · have h := zif c41 h
            refine lv_iconst (v := 0) hx hb dX8_fitsOf_53 (by decide) ?_
            refine lv_iadd hx hb dX8_fitsOf_54 ?_
            obtain ⟨x42, ex42, h⟩ := zbdE h
            refine zr_topi ex42 ?_
            refine lv_istore_n (lv' := [(3, .int x42), (5, .int x33), (0, .ref (ad 0)), (1, .int l1), (2, .int l2), (4, .int l4)]) hx hb dX8_fitsOf_55 rfl hl (by decide) rfl (fun ls hl => ?_)
            obtain ⟨x43, ex43, h⟩ := zbdE h
            refine lv_iinc (v := x43) (lv' := [(4, .int x43), (3, .int x42), (5, .int x33), (0, .ref (ad 0)), (1, .int l1), (2, .int l2)]) hx hb dX8_fitsOf_56 hl (k := 5) rfl (zinc (k := 1) (by decide) ex43) (by decide) rfl (fun ls hl => ?_)
            refine lv_goto (tgt := 5) hx hb dX8_fitsOf_59 (by decide) ?_
            exact ih5 l1 l2 x42 x43 w40 ls _ _ h (lv_sub hl [3, 4, 5, 1, 0] rfl) hE
          · have h := zif' c41 h
            refine lv_iconst (v := 1) hx hb dX8_fitsOf_49 (by decide) ?_
            refine lv_goto (tgt := 54) hx hb dX8_fitsOf_50 (by decide) ?_
            refine lv_iadd hx hb dX8_fitsOf_54 ?_
            obtain ⟨x44, ex44, h⟩ := zbdE h
            refine zr_topi ex44 ?_
            refine lv_istore_n (lv' := [(3, .int x44), (5, .int x33), (0, .ref (ad 0)), (1, .int l1), (2, .int l2), (4, .int l4)]) hx hb dX8_fitsOf_55 rfl hl (by decide) rfl (fun ls hl => ?_)
            obtain ⟨x45, ex45, h⟩ := zbdE h
            refine lv_iinc (v := x45) (lv' := [(4, .int x45), (3, .int x44), (5, .int x33), (0, .ref (ad 0)), (1, .int l1), (2, .int l2)]) hx hb dX8_fitsOf_56 hl (k := 5) rfl (zinc (k := 1) (by decide) ex45) (by decide) rfl (fun ls hl => ?_)
            refine lv_goto (tgt := 5) hx hb dX8_fitsOf_59 (by decide) ?_
            exact ih5 l1 l2 x44 x45 w40 ls _ _ h (lv_sub hl [3, 4, 5, 1, 0] rfl) hE
  refine lv_iconst (v := 0) hx hb dX8_fitsOf_0 (by decide) ?_
  refine lv_istore_n (lv' := [(3, .int 0), (0, .ref (ad 0)), (1, .int a1), (2, .int a2)]) hx hb dX8_fitsOf_1 rfl hl (by decide) rfl (fun ls hl => ?_)
  refine lv_iconst (v := 0) hx hb dX8_fitsOf_2 (by decide) ?_
  refine lv_istore (lv' := [(4, .int 0), (3, .int 0), (0, .ref (ad 0)), (1, .int a1), (2, .int a2)]) hx hb dX8_fitsOf_3 hl (by decide) rfl (fun ls hl => ?_)
  exact L5 zfuel a1 a2 0 0 w ls _ _ h (lv_sub hl [2, 3, 4, 1, 0] rfl) hE
set_option maxHeartbeats 4000000 in
set_option maxRecDepth 100000 in
theorem kX8_fits (l : Launch) (D : va_G) (tc : Nat → ClassId) (lo : Nat) (ad : Nat → Nat) (fr : va_W) (zq : zz_Q) (a1 : Int32) (a2 : Int32) (w : zz_W) (r : Int32) (w_ : zz_W) (h : fX8_fits a1 a2 w = some (r, w_)) : zMi l yX8_fits cX8_fits 5 (some .int) { frames := 3, cells := 0, slots := 0, locals := 72 } D tc lo ad zshM znnM fr zq [.ref (ad 0), .int a1, .int a2] w r w_ := by
  refine zr_entry (by decide) (Nat.le_of_ble_eq_true rfl) fun p e s m args below meth c ls S hX hr hlk hE hl => ?_
  have S : CallFix p m c cX8_fits 5 s args (Cond.code yX8_fits cX8_fits 5 (some .int) :: zw_tb) RX8 := S
  have hx := S.1
  have hb := S.2.1
  have hK := hX.2.1
  have hl : lv_has ls 5 [(0, .ref (ad 0)), (1, .int a1), (2, .int a2)] := hl
  unfold fX8_fits at h
  have L36 : ∀ (n : Nat) (l1 : Int32) (l2 : Int32) (l3 : Int32) (l4 : Int32) (w : zz_W) (ls : Array Slot) (H : Heap) (locs : List Loc), fX8_fits_36 a1 a2 n l1 l2 l3 l4 w = some (r, w_) → lv_has ls 5 [(0, .ref (ad 0)), (1, .int l1), (2, .int l2), (3, .int l3), (4, .int l4)] → zE D tc lo ad zshM znnM fr w s.heap H locs → W p l e { frames := 3, cells := 0, slots := 0, locals := 72 } s m args below meth c H locs 0 0 (zZi D tc lo ad zshM znnM fr below args s r w_) (F0 m 36 ls []) := by
    intro n36
    induction n36 with
    | zero => intro l1 l2 l3 l4 w ls H locs h hl hE; rw [fX8_fits_36] at h; cases h
    | succ n36 ih36 =>
      intro l1 l2 l3 l4 w ls H locs h hl hE
      rw [fX8_fits_36] at h
      refine lv_iload hx hb dX8_fits_36 (lv_at hl 4 rfl) ?_
      refine lv_aload_n hx hb dX8_fits_38 rfl (lv_at hl 0 rfl) ?_
      refine zr_getA S hK hE zcl_X8 (zm_0 w) 0 (Nat.le_of_ble_eq_true rfl) (q := 1) rfl qf_X8_9 dX8_fits_39 ?_
      refine lv_iconst (v := 1) hx hb dX8_fits_42 (by decide) ?_
      obtain ⟨x45, ex45, h⟩ := zbdE h
      refine zr_iald S hK hE (zm_1 w) dX8_fits_43 ex45 ?_
      refine lv_icmp_ge (tgt := 76) hx hb dX8_fits_44 (by decide) (fun c46 => ?_) (fun c46 => ?_)
      · have h := zif c46 h
        refine lv_aload_n hx hb dX8_fits_76 rfl (lv_at hl 0 rfl) ?_
        refine zr_getA S hK hE zcl_X8 (zm_0 w) 0 (Nat.le_of_ble_eq_true rfl) (q := 1) rfl qf_X8_9 dX8_fits_77 ?_
        refine lv_iconst (v := 1) hx hb dX8_fits_80 (by decide) ?_
        obtain ⟨x47, ex47, h⟩ := zbdE h
        refine zr_iald S hK hE (zm_1 w) dX8_fits_81 ex47 ?_
        refine lv_if_ne (tgt := 90) hx hb dX8_fits_82 (by decide) (fun c48 => ?_) (fun c48 => ?_)
        · have h := zif' c48 h
          refine lv_iload_n hx hb dX8_fits_90 rfl (lv_at hl 2 rfl) ?_
          refine lv_if_ne (tgt := 98) hx hb dX8_fits_91 (by decide) (fun c49 => ?_) (fun c49 => ?_)
          · have h := zif' c49 h
            refine lv_aload_n hx hb dX8_fits_98 rfl (lv_at hl 0 rfl) ?_
            refine lv_iload_n hx hb dX8_fits_99 rfl (lv_at hl 1 rfl) ?_
            refine lv_iload_n hx hb dX8_fits_100 rfl (lv_at hl 3 rfl) ?_
            obtain ⟨x50, w51, ew51, h⟩ := zbd2E h
            refine zr_i (zr_runV (As := [.int l1, .int l3]) S hX hE (kX8_fitsOf l D tc lo ad fr zq l1 l3 w x50 w51 ew51) zyX8_fitsOf qm_X8_213 zcl_X8 rfl (zm_0 w) ⟨rfl, rfl⟩ ⟨Nat.le_of_ble_eq_true rfl, Nat.le_of_ble_eq_true rfl⟩ rfl hl.1 rfl (Nat.le_of_ble_eq_true rfl) dX8_fits_101 ⟨Nat.zero_le _, Nat.zero_le _⟩) hE (fun H locs hE => ?_)
            exact zr_iret S hE hr hlk h dX8_fits_104
          · have h := zif c49 h
            refine lv_iload_n hx hb dX8_fits_94 rfl (lv_at hl 3 rfl) ?_
            refine lv_goto (tgt := 104) hx hb dX8_fits_95 (by decide) ?_
            exact zr_iret S hE hr hlk h dX8_fits_104
        · have h := zif c48 h
          refine zr_ldc S qc_X8_176 dX8_fits_85 ?_
          refine lv_goto (tgt := 104) hx hb dX8_fits_87 (by decide) ?_
          exact zr_iret S hE hr hlk h dX8_fits_104
      · have h := zif' c46 h
        refine lv_aload_n hx hb dX8_fits_47 rfl (lv_at hl 0 rfl) ?_
        refine lv_iload_n hx hb dX8_fits_48 rfl (lv_at hl 1 rfl) ?_
        refine lv_iload hx hb dX8_fits_49 (lv_at hl 4 rfl) ?_
        obtain ⟨x52, w53, ew53, h⟩ := zbd2E h
        refine zr_i (zr_runV (As := [.int l1, .int l4]) S hX hE (kX8_fitsOf l D tc lo ad fr zq l1 l4 w x52 w53 ew53) zyX8_fitsOf qm_X8_213 zcl_X8 rfl (zm_0 w) ⟨rfl, rfl⟩ ⟨Nat.le_of_ble_eq_true rfl, Nat.le_of_ble_eq_true rfl⟩ rfl hl.1 rfl (Nat.le_of_ble_eq_true rfl) dX8_fits_51 ⟨Nat.zero_le _, Nat.zero_le _⟩) hE (fun H locs hE => ?_)
        refine lv_aload_n hx hb dX8_fits_54 rfl (lv_at hl 0 rfl) ?_
        refine lv_iload_n hx hb dX8_fits_55 rfl (lv_at hl 1 rfl) ?_
        refine lv_iload_n hx hb dX8_fits_56 rfl (lv_at hl 3 rfl) ?_
        obtain ⟨x54, w55, ew55, h⟩ := zbd2E h
        refine zr_i (zr_runV (As := [.int l1, .int l3]) S hX hE (kX8_fitsOf l D tc lo ad fr zq l1 l3 w53 x54 w55 ew55) zyX8_fitsOf qm_X8_213 zcl_X8 rfl (zm_0 w53) ⟨rfl, rfl⟩ ⟨Nat.le_of_ble_eq_true rfl, Nat.le_of_ble_eq_true rfl⟩ rfl hl.1 rfl (Nat.le_of_ble_eq_true rfl) dX8_fits_57 ⟨Nat.zero_le _, Nat.zero_le _⟩) hE (fun H locs hE => ?_)
        refine lv_icmp_le (tgt := 68) hx hb dX8_fits_60 (by decide) (fun c56 => ?_) (fun c56 => ?_)
        · have h := zif c56 h
          refine lv_iload_n hx hb dX8_fits_68 rfl (lv_at hl 3 rfl) ?_
          refine lv_istore_n (lv' := [(3, .int l3), (0, .ref (ad 0)), (1, .int l1), (2, .int l2), (4, .int l4)]) hx hb dX8_fits_69 rfl hl (by decide) rfl (fun ls hl => ?_)
          obtain ⟨x57, ex57, h⟩ := zbdE h
          refine lv_iinc (v := x57) (lv' := [(4, .int x57), (3, .int l3), (0, .ref (ad 0)), (1, .int l1), (2, .int l2)]) hx hb dX8_fits_70 hl (k := 4) rfl (zinc (k := 1) (by decide) ex57) (by decide) rfl (fun ls hl => ?_)
          refine lv_goto (tgt := 36) hx hb dX8_fits_73 (by decide) ?_
          exact ih36 l1 l2 l3 x57 w55 ls _ _ h (lv_sub hl [2, 3, 4, 1, 0] rfl) hE
        · have h := zif' c56 h
          refine lv_iload hx hb dX8_fits_63 (lv_at hl 4 rfl) ?_
          refine lv_goto (tgt := 69) hx hb dX8_fits_65 (by decide) ?_
          refine lv_istore_n (lv' := [(3, .int l4), (0, .ref (ad 0)), (1, .int l1), (2, .int l2), (4, .int l4)]) hx hb dX8_fits_69 rfl hl (by decide) rfl (fun ls hl => ?_)
          obtain ⟨x58, ex58, h⟩ := zbdE h
          refine lv_iinc (v := x58) (lv' := [(4, .int x58), (3, .int l4), (0, .ref (ad 0)), (1, .int l1), (2, .int l2)]) hx hb dX8_fits_70 hl (k := 4) rfl (zinc (k := 1) (by decide) ex58) (by decide) rfl (fun ls hl => ?_)
          refine lv_goto (tgt := 36) hx hb dX8_fits_73 (by decide) ?_
          exact ih36 l1 l2 l4 x58 w55 ls _ _ h (lv_sub hl [2, 3, 4, 1, 0] rfl) hE
  refine lv_iload_n hx hb dX8_fits_0 rfl (lv_at hl 1 rfl) ?_
  obtain ⟨x10001, w10002, ew10002, h⟩ := zbd2E h
  refine zr_i (zr_runS (As := [.int a1]) S hX hE (kX8_isSheet l D tc lo ad fr zq a1 w x10001 w10002 ew10002) zyX8_isSheet qm_X8_197 ⟨rfl, rfl⟩ ⟨Nat.le_of_ble_eq_true rfl, Nat.le_of_ble_eq_true rfl⟩ rfl hl.1 rfl (Nat.le_of_ble_eq_true rfl) dX8_fits_1 ⟨Nat.zero_le _, Nat.zero_le _⟩) hE (fun H locs hE => ?_)
  refine lv_if_eq (tgt := 16) hx hb dX8_fits_4 (by decide) (fun c10003 => ?_) (fun c10003 => ?_)
  · have h := zif c10003 h
    refine zr_ldc S qc_X8_97 dX8_fits_16 ?_
    exact zr_iret S hE hr hlk h dX8_fits_18
  · have h := zif' c10003 h
    refine lv_iload_n hx hb dX8_fits_7 rfl (lv_at hl 2 rfl) ?_
    refine lv_iconst (v := 0) hx hb dX8_fits_8 (by decide) ?_
    refine lv_iconst (v := 1) hx hb dX8_fits_9 (by decide) ?_
    obtain ⟨x10004, w10005, ew10005, h⟩ := zbd2E h
    refine zr_i (zr_runS (As := [.int a2, .int 0, .int 1]) S hX hE (kX8_in l D tc lo ad fr zq a2 0 1 w10002 x10004 w10005 ew10005) zyX8_in qm_X8_81 ⟨rfl, rfl⟩ ⟨Nat.le_of_ble_eq_true rfl, Nat.le_of_ble_eq_true rfl⟩ rfl hl.1 rfl (Nat.le_of_ble_eq_true rfl) dX8_fits_10 ⟨Nat.zero_le _, Nat.zero_le _⟩) hE (fun H locs hE => ?_)
    refine lv_if_ne (tgt := 19) hx hb dX8_fits_13 (by decide) (fun c10006 => ?_) (fun c10006 => ?_)
    · have h := zif' c10006 h
      refine lv_aload_n hx hb dX8_fits_19 rfl (lv_at hl 0 rfl) ?_
      refine zr_getA S hK hE zcl_X8 (zm_0 w10005) 25 (Nat.le_of_ble_eq_true rfl) (q := 15) rfl qf_X8_54 dX8_fits_20 ?_
      refine lv_iload_n hx hb dX8_fits_23 rfl (lv_at hl 1 rfl) ?_
      obtain ⟨x10007, ex10007, h⟩ := zbdE h
      refine zr_iald S hK hE (zm_15 w10005) dX8_fits_24 ex10007 ?_
      refine lv_if_ge (tgt := 31) hx hb dX8_fits_25 (by decide) (fun c10008 => ?_) (fun c10008 => ?_)
      · have h := zif c10008 h
        refine lv_iconst (v := 0) hx hb dX8_fits_31 (by decide) ?_
        refine lv_istore_n (lv' := [(3, .int 0), (0, .ref (ad 0)), (1, .int a1), (2, .int a2)]) hx hb dX8_fits_32 rfl hl (by decide) rfl (fun ls hl => ?_)
        refine lv_iconst (v := 1) hx hb dX8_fits_33 (by decide) ?_
        refine lv_istore (lv' := [(4, .int 1), (3, .int 0), (0, .ref (ad 0)), (1, .int a1), (2, .int a2)]) hx hb dX8_fits_34 hl (by decide) rfl (fun ls hl => ?_)
        exact L36 zfuel a1 a2 0 1 w10005 ls _ _ h (lv_sub hl [2, 3, 4, 1, 0] rfl) hE
      · have h := zif' c10008 h
        refine zr_ldc S qc_X8_200 dX8_fits_28 ?_
        exact zr_iret S hE hr hlk h dX8_fits_30
    · have h := zif c10006 h
      refine zr_ldc S qc_X8_97 dX8_fits_16 ?_
      exact zr_iret S hE hr hlk h dX8_fits_18
set_option maxHeartbeats 4000000 in
set_option maxRecDepth 100000 in
theorem kX8_isFigure (l : Launch) (D : va_G) (tc : Nat → ClassId) (lo : Nat) (ad : Nat → Nat) (fr : va_W) (zq : zz_Q) (a1 : Int32) (w : zz_W) (r : Int32) (w_ : zz_W) (h : fX8_isFigure a1 w = some (r, w_)) : zMi l yX8_isFigure cX8_isFigure 2 (some .boolean) { frames := 0, cells := 0, slots := 0, locals := 0 } D tc lo ad zshM znnM fr zq [.ref (ad 0), .int a1] w r w_ := by
  refine zr_entry (by decide) (Nat.le_of_ble_eq_true rfl) fun p e s m args below meth c ls S hX hr hlk hE hl => ?_
  have S : CallFix p m c cX8_isFigure 2 s args (Cond.code yX8_isFigure cX8_isFigure 2 (some .boolean) :: zw_tb) RX8 := S
  have hx := S.1
  have hb := S.2.1
  have hK := hX.2.1
  have hl : lv_has ls 2 [(0, .ref (ad 0)), (1, .int a1)] := hl
  unfold fX8_isFigure at h
  refine lv_iload_n hx hb dX8_isFigure_0 rfl (lv_at hl 1 rfl) ?_
  refine lv_aload_n hx hb dX8_isFigure_1 rfl (lv_at hl 0 rfl) ?_
  obtain ⟨x10001, ex10001, h⟩ := zbdE h
  refine zr_getI S hK hE zcl_X8 (zm_0 w) 8 (Nat.le_of_ble_eq_true rfl) rfl qf_X8_222 dX8_isFigure_2 ex10001 ?_
  refine lv_icmp_ge (tgt := 34) hx hb dX8_isFigure_5 (by decide) (fun c10002 => ?_) (fun c10002 => ?_)
  · have h := zif c10002 h
    refine lv_iconst (v := 0) hx hb dX8_isFigure_34 (by decide) ?_
    exact zr_zret S hE hr hlk (by decide) h dX8_isFigure_35
  · have h := zif' c10002 h
    refine lv_aload_n hx hb dX8_isFigure_8 rfl (lv_at hl 0 rfl) ?_
    refine zr_getA S hK hE zcl_X8 (zm_0 w) 7 (Nat.le_of_ble_eq_true rfl) (q := 7) rfl qf_X8_28 dX8_isFigure_9 ?_
    refine lv_iload_n hx hb dX8_isFigure_12 rfl (lv_at hl 1 rfl) ?_
    obtain ⟨x10003, ex10003, h⟩ := zbdE h
    refine zr_iald S hK hE (zm_7 w) dX8_isFigure_13 ex10003 ?_
    refine lv_bipush (v := 48) hx hb dX8_isFigure_14 (by decide) ?_
    refine lv_icmp_lt (tgt := 34) hx hb dX8_isFigure_16 (by decide) (fun c10004 => ?_) (fun c10004 => ?_)
    · have h := zif c10004 h
      refine lv_iconst (v := 0) hx hb dX8_isFigure_34 (by decide) ?_
      exact zr_zret S hE hr hlk (by decide) h dX8_isFigure_35
    · have h := zif' c10004 h
      refine lv_aload_n hx hb dX8_isFigure_19 rfl (lv_at hl 0 rfl) ?_
      refine zr_getA S hK hE zcl_X8 (zm_0 w) 7 (Nat.le_of_ble_eq_true rfl) (q := 7) rfl qf_X8_28 dX8_isFigure_20 ?_
      refine lv_iload_n hx hb dX8_isFigure_23 rfl (lv_at hl 1 rfl) ?_
      obtain ⟨x10005, ex10005, h⟩ := zbdE h
      refine zr_iald S hK hE (zm_7 w) dX8_isFigure_24 ex10005 ?_
      refine lv_bipush (v := 57) hx hb dX8_isFigure_25 (by decide) ?_
      refine lv_icmp_gt (tgt := 34) hx hb dX8_isFigure_27 (by decide) (fun c10006 => ?_) (fun c10006 => ?_)
      · have h := zif c10006 h
        refine lv_iconst (v := 0) hx hb dX8_isFigure_34 (by decide) ?_
        exact zr_zret S hE hr hlk (by decide) h dX8_isFigure_35
      · have h := zif' c10006 h
        refine lv_iconst (v := 1) hx hb dX8_isFigure_30 (by decide) ?_
        refine lv_goto (tgt := 35) hx hb dX8_isFigure_31 (by decide) ?_
        exact zr_zret S hE hr hlk (by decide) h dX8_isFigure_35
set_option maxHeartbeats 4000000 in
set_option maxRecDepth 100000 in
theorem kX8_isLetter (l : Launch) (D : va_G) (tc : Nat → ClassId) (lo : Nat) (ad : Nat → Nat) (fr : va_W) (zq : zz_Q) (a1 : Int32) (w : zz_W) (r : Int32) (w_ : zz_W) (h : fX8_isLetter a1 w = some (r, w_)) : zMi l yX8_isLetter cX8_isLetter 2 (some .boolean) { frames := 0, cells := 0, slots := 0, locals := 0 } D tc lo ad zshM znnM fr zq [.ref (ad 0), .int a1] w r w_ := by
  refine zr_entry (by decide) (Nat.le_of_ble_eq_true rfl) fun p e s m args below meth c ls S hX hr hlk hE hl => ?_
  have S : CallFix p m c cX8_isLetter 2 s args (Cond.code yX8_isLetter cX8_isLetter 2 (some .boolean) :: zw_tb) RX8 := S
  have hx := S.1
  have hb := S.2.1
  have hK := hX.2.1
  have hl : lv_has ls 2 [(0, .ref (ad 0)), (1, .int a1)] := hl
  unfold fX8_isLetter at h
  refine lv_iload_n hx hb dX8_isLetter_0 rfl (lv_at hl 1 rfl) ?_
  refine lv_aload_n hx hb dX8_isLetter_1 rfl (lv_at hl 0 rfl) ?_
  obtain ⟨x10001, ex10001, h⟩ := zbdE h
  refine zr_getI S hK hE zcl_X8 (zm_0 w) 8 (Nat.le_of_ble_eq_true rfl) rfl qf_X8_222 dX8_isLetter_2 ex10001 ?_
  refine lv_icmp_ge (tgt := 34) hx hb dX8_isLetter_5 (by decide) (fun c10002 => ?_) (fun c10002 => ?_)
  · have h := zif c10002 h
    refine lv_iconst (v := 0) hx hb dX8_isLetter_34 (by decide) ?_
    exact zr_zret S hE hr hlk (by decide) h dX8_isLetter_35
  · have h := zif' c10002 h
    refine lv_aload_n hx hb dX8_isLetter_8 rfl (lv_at hl 0 rfl) ?_
    refine zr_getA S hK hE zcl_X8 (zm_0 w) 7 (Nat.le_of_ble_eq_true rfl) (q := 7) rfl qf_X8_28 dX8_isLetter_9 ?_
    refine lv_iload_n hx hb dX8_isLetter_12 rfl (lv_at hl 1 rfl) ?_
    obtain ⟨x10003, ex10003, h⟩ := zbdE h
    refine zr_iald S hK hE (zm_7 w) dX8_isLetter_13 ex10003 ?_
    refine lv_bipush (v := 97) hx hb dX8_isLetter_14 (by decide) ?_
    refine lv_icmp_lt (tgt := 34) hx hb dX8_isLetter_16 (by decide) (fun c10004 => ?_) (fun c10004 => ?_)
    · have h := zif c10004 h
      refine lv_iconst (v := 0) hx hb dX8_isLetter_34 (by decide) ?_
      exact zr_zret S hE hr hlk (by decide) h dX8_isLetter_35
    · have h := zif' c10004 h
      refine lv_aload_n hx hb dX8_isLetter_19 rfl (lv_at hl 0 rfl) ?_
      refine zr_getA S hK hE zcl_X8 (zm_0 w) 7 (Nat.le_of_ble_eq_true rfl) (q := 7) rfl qf_X8_28 dX8_isLetter_20 ?_
      refine lv_iload_n hx hb dX8_isLetter_23 rfl (lv_at hl 1 rfl) ?_
      obtain ⟨x10005, ex10005, h⟩ := zbdE h
      refine zr_iald S hK hE (zm_7 w) dX8_isLetter_24 ex10005 ?_
      refine lv_bipush (v := 122) hx hb dX8_isLetter_25 (by decide) ?_
      refine lv_icmp_gt (tgt := 34) hx hb dX8_isLetter_27 (by decide) (fun c10006 => ?_) (fun c10006 => ?_)
      · have h := zif c10006 h
        refine lv_iconst (v := 0) hx hb dX8_isLetter_34 (by decide) ?_
        exact zr_zret S hE hr hlk (by decide) h dX8_isLetter_35
      · have h := zif' c10006 h
        refine lv_iconst (v := 1) hx hb dX8_isLetter_30 (by decide) ?_
        refine lv_goto (tgt := 35) hx hb dX8_isLetter_31 (by decide) ?_
        exact zr_zret S hE hr hlk (by decide) h dX8_isLetter_35
set_option maxHeartbeats 4000000 in
set_option maxRecDepth 100000 in
theorem kX8_go (l : Launch) (D : va_G) (tc : Nat → ClassId) (lo : Nat) (ad : Nat → Nat) (fr : va_W) (zq : zz_Q) (w : zz_W) (w_ : zz_W) (h : fX8_go w = some w_) : zMv l yX8_go cX8_go 2 none { frames := 1, cells := 0, slots := 0, locals := 21 } D tc lo ad zshM znnM fr zq [.ref (ad 0)] w w_ := by
  refine zr_entry (by decide) (Nat.le_of_ble_eq_true rfl) fun p e s m args below meth c ls S hX hr hlk hE hl => ?_
  have S : CallFix p m c cX8_go 2 s args (Cond.code yX8_go cX8_go 2 none :: zw_tb) RX8 := S
  have hx := S.1
  have hb := S.2.1
  have hK := hX.2.1
  have hl : lv_has ls 2 [(0, .ref (ad 0))] := hl
  unfold fX8_go at h
  have J261 : ∀ (s1 : Int32) (w : zz_W) (ls : Array Slot) (H : Heap) (locs : List Loc), fX8_go_261 s1 w = some w_ → lv_has ls 2 [(0, .ref (ad 0))] → zE D tc lo ad zshM znnM fr w s.heap H locs → W p l e { frames := 1, cells := 0, slots := 0, locals := 21 } s m args below meth c H locs 0 0 (zZv D tc lo ad zshM znnM fr below args s w_) (F0 m 261 ls [.int s1, .ref (ad 0)]) := by
    intro s1 w ls H locs h hl hE
    unfold fX8_go_261 at h
    obtain ⟨w141, ew141, h⟩ := zbdE h
    refine zr_putI S hK hE zcl_X8 (zm_0 w) 11 (Nat.le_of_ble_eq_true rfl) rfl rfl rfl qf_X8_235 dX8_go_261 ew141 (fun H locs hE => ?_)
    refine lv_aload_n hx hb dX8_go_264 rfl (lv_at hl 0 rfl) ?_
    refine lv_aload_n hx hb dX8_go_265 rfl (lv_at hl 0 rfl) ?_
    obtain ⟨x142, ex142, h⟩ := zbdE h
    refine zr_getI S hK hE zcl_X8 (zm_0 w141) 9 (Nat.le_of_ble_eq_true rfl) rfl qf_X8_226 dX8_go_266 ex142 ?_
    obtain ⟨w143, ew143, h⟩ := zbdE h
    refine zr_putI S hK hE zcl_X8 (zm_0 w141) 13 (Nat.le_of_ble_eq_true rfl) rfl rfl rfl qf_X8_232 dX8_go_269 ew143 (fun H locs hE => ?_)
    refine lv_goto (tgt := 303) hx hb dX8_go_272 (by decide) ?_
    exact zr_vret S hE hr hlk h dX8_go_303
  have J256 : ∀ (w : zz_W) (ls : Array Slot) (H : Heap) (locs : List Loc), fX8_go_256 w = some w_ → lv_has ls 2 [(0, .ref (ad 0))] → zE D tc lo ad zshM znnM fr w s.heap H locs → W p l e { frames := 1, cells := 0, slots := 0, locals := 21 } s m args below meth c H locs 0 0 (zZv D tc lo ad zshM znnM fr below args s w_) (F0 m 256 ls [.ref (ad 0)]) := by
    intro w ls H locs h hl hE
    unfold fX8_go_256 at h
    refine lv_iconst (v := 4) hx hb dX8_go_256 (by decide) ?_
    refine lv_goto (tgt := 261) hx hb dX8_go_257 (by decide) ?_
    exact J261 4 w ls _ _ h (lv_sub hl [0] rfl) hE
  have L170 : ∀ (n : Nat) (l1 : Int32) (w : zz_W) (ls : Array Slot) (H : Heap) (locs : List Loc), fX8_go_170 n l1 w = some w_ → lv_has ls 2 [(0, .ref (ad 0)), (1, .int l1)] → zE D tc lo ad zshM znnM fr w s.heap H locs → W p l e { frames := 1, cells := 0, slots := 0, locals := 21 } s m args below meth c H locs 0 0 (zZv D tc lo ad zshM znnM fr below args s w_) (F0 m 170 ls []) := by
    intro n170
    induction n170 with
    | zero => intro l1 w ls H locs h hl hE; rw [fX8_go_170] at h; cases h
    | succ n170 ih170 =>
      intro l1 w ls H locs h hl hE
      rw [fX8_go_170] at h
      have J222 : ∀ (l1 : Int32) (s1 : Int32) (w : zz_W) (ls : Array Slot) (H : Heap) (locs : List Loc), fX8_go_222 (fX8_go_170 n170) l1 s1 w = some w_ → lv_has ls 2 [(0, .ref (ad 0)), (1, .int l1)] → zE D tc lo ad zshM znnM fr w s.heap H locs → W p l e { frames := 1, cells := 0, slots := 0, locals := 21 } s m args below meth c H locs 0 0 (zZv D tc lo ad zshM znnM fr below args s w_) (F0 m 222 ls [.int s1, .ref (ad 0)]) := by
        intro l1 s1 w ls H locs h hl hE
        unfold fX8_go_222 at h
        obtain ⟨w144, ew144, h⟩ := zbdE h
        refine zr_putI S hK hE zcl_X8 (zm_0 w) 12 (Nat.le_of_ble_eq_true rfl) rfl rfl rfl qf_X8_241 dX8_go_222 ew144 (fun H locs hE => ?_)
        refine lv_aload_n hx hb dX8_go_225 rfl (lv_at hl 0 rfl) ?_
        refine lv_dup hx hb dX8_go_226 rfl ?_
        obtain ⟨x145, ex145, h⟩ := zbdE h
        refine zr_getI S hK hE zcl_X8 (zm_0 w144) 9 (Nat.le_of_ble_eq_true rfl) rfl qf_X8_226 dX8_go_227 ex145 ?_
        refine lv_iconst (v := 1) hx hb dX8_go_230 (by decide) ?_
        refine lv_iadd hx hb dX8_go_231 ?_
        obtain ⟨w146, ew146, h⟩ := zbdE h
        refine zr_putI S hK hE zcl_X8 (zm_0 w144) 9 (Nat.le_of_ble_eq_true rfl) rfl rfl rfl qf_X8_226 dX8_go_232 ew146 (fun H locs hE => ?_)
        refine lv_goto (tgt := 170) hx hb dX8_go_235 (by decide) ?_
        exact ih170 l1 w146 ls _ _ h (lv_sub hl [0, 1] rfl) hE
      refine lv_aload_n hx hb dX8_go_170 rfl (lv_at hl 0 rfl) ?_
      refine lv_aload_n hx hb dX8_go_171 rfl (lv_at hl 0 rfl) ?_
      obtain ⟨x147, ex147, h⟩ := zbdE h
      refine zr_getI S hK hE zcl_X8 (zm_0 w) 9 (Nat.le_of_ble_eq_true rfl) rfl qf_X8_226 dX8_go_172 ex147 ?_
      obtain ⟨x148, w149, ew149, h⟩ := zbd2E h
      refine zr_i (zr_runV (As := [.int x147]) S hX hE (kX8_isFigure l D tc lo ad fr zq x147 w x148 w149 ew149) zyX8_isFigure qm_X8_244 zcl_X8 rfl (zm_0 w) ⟨rfl, rfl⟩ ⟨Nat.le_of_ble_eq_true rfl, Nat.le_of_ble_eq_true rfl⟩ rfl hl.1 rfl (Nat.le_of_ble_eq_true rfl) dX8_go_175 ⟨Nat.zero_le _, Nat.zero_le _⟩) hE (fun H locs hE => ?_)
      refine lv_if_eq (tgt := 238) hx hb dX8_go_178 (by decide) (fun c150 => ?_) (fun c150 => ?_)
      · have h := zif c150 h
        refine lv_aload_n hx hb dX8_go_238 rfl (lv_at hl 0 rfl) ?_
        refine lv_iload_n hx hb dX8_go_239 rfl (lv_at hl 1 rfl) ?_
        refine lv_if_ne (tgt := 256) hx hb dX8_go_240 (by decide) (fun c151 => ?_) (fun c151 => ?_)
        · have h := zif' c151 h
          exact J256 w149 ls _ _ h (lv_sub hl [0] rfl) hE
        · have h := zif c151 h
          refine lv_aload_n hx hb dX8_go_243 rfl (lv_at hl 0 rfl) ?_
          obtain ⟨x152, ex152, h⟩ := zbdE h
          refine zr_getI S hK hE zcl_X8 (zm_0 w149) 9 (Nat.le_of_ble_eq_true rfl) rfl qf_X8_226 dX8_go_244 ex152 ?_
          refine lv_aload_n hx hb dX8_go_247 rfl (lv_at hl 0 rfl) ?_
          obtain ⟨x153, ex153, h⟩ := zbdE h
          refine zr_getI S hK hE zcl_X8 (zm_0 w149) 10 (Nat.le_of_ble_eq_true rfl) rfl qf_X8_229 dX8_go_248 ex153 ?_
          refine lv_isub hx hb dX8_go_251 ?_
          refine lv_iconst (v := 4) hx hb dX8_go_252 (by decide) ?_
          refine lv_icmp_le (tgt := 260) hx hb dX8_go_253 (by decide) (fun c154 => ?_) (fun c154 => ?_)
          · have h := zif c154 h
            refine lv_iconst (v := 2) hx hb dX8_go_260 (by decide) ?_
            exact J261 2 w149 ls _ _ h (lv_sub hl [0] rfl) hE
          · have h := zif' c154 h
            exact J256 w149 ls _ _ h (lv_sub hl [0] rfl) hE
      · have h := zif' c150 h
        refine lv_aload_n hx hb dX8_go_181 rfl (lv_at hl 0 rfl) ?_
        refine lv_aload_n hx hb dX8_go_182 rfl (lv_at hl 0 rfl) ?_
        obtain ⟨x155, ex155, h⟩ := zbdE h
        refine zr_getI S hK hE zcl_X8 (zm_0 w149) 9 (Nat.le_of_ble_eq_true rfl) rfl qf_X8_226 dX8_go_183 ex155 ?_
        refine lv_aload_n hx hb dX8_go_186 rfl (lv_at hl 0 rfl) ?_
        obtain ⟨x156, ex156, h⟩ := zbdE h
        refine zr_getI S hK hE zcl_X8 (zm_0 w149) 10 (Nat.le_of_ble_eq_true rfl) rfl qf_X8_229 dX8_go_187 ex156 ?_
        refine lv_isub hx hb dX8_go_190 ?_
        refine lv_iconst (v := 4) hx hb dX8_go_191 (by decide) ?_
        refine lv_icmp_ge (tgt := 218) hx hb dX8_go_192 (by decide) (fun c157 => ?_) (fun c157 => ?_)
        · have h := zif c157 h
          refine lv_aload_n hx hb dX8_go_218 rfl (lv_at hl 0 rfl) ?_
          obtain ⟨x158, ex158, h⟩ := zbdE h
          refine zr_getI S hK hE zcl_X8 (zm_0 w149) 12 (Nat.le_of_ble_eq_true rfl) rfl qf_X8_241 dX8_go_219 ex158 ?_
          exact J222 l1 x158 w149 ls _ _ h (lv_sub hl [0, 1] rfl) hE
        · have h := zif' c157 h
          refine lv_bipush (v := 10) hx hb dX8_go_195 (by decide) ?_
          refine lv_aload_n hx hb dX8_go_197 rfl (lv_at hl 0 rfl) ?_
          obtain ⟨x159, ex159, h⟩ := zbdE h
          refine zr_getI S hK hE zcl_X8 (zm_0 w149) 12 (Nat.le_of_ble_eq_true rfl) rfl qf_X8_241 dX8_go_198 ex159 ?_
          refine lv_imul hx hb dX8_go_201 ?_
          refine lv_aload_n hx hb dX8_go_202 rfl (lv_at hl 0 rfl) ?_
          refine zr_getA S hK hE zcl_X8 (zm_0 w149) 7 (Nat.le_of_ble_eq_true rfl) (q := 7) rfl qf_X8_28 dX8_go_203 ?_
          refine lv_aload_n hx hb dX8_go_206 rfl (lv_at hl 0 rfl) ?_
          obtain ⟨x160, ex160, h⟩ := zbdE h
          refine zr_getI S hK hE zcl_X8 (zm_0 w149) 9 (Nat.le_of_ble_eq_true rfl) rfl qf_X8_226 dX8_go_207 ex160 ?_
          obtain ⟨x161, ex161, h⟩ := zbdE h
          refine zr_iald S hK hE (zm_7 w149) dX8_go_210 ex161 ?_
          refine lv_iadd hx hb dX8_go_211 ?_
          refine lv_bipush (v := 48) hx hb dX8_go_212 (by decide) ?_
          refine lv_isub hx hb dX8_go_214 ?_
          refine lv_goto (tgt := 222) hx hb dX8_go_215 (by decide) ?_
          exact J222 l1 (((10 * x159) + x161) - 48) w149 ls _ _ h (lv_sub hl [0, 1] rfl) hE
  have J127 : ∀ (s1 : Int32) (w : zz_W) (ls : Array Slot) (H : Heap) (locs : List Loc), fX8_go_127 s1 w = some w_ → lv_has ls 2 [(0, .ref (ad 0))] → zE D tc lo ad zshM znnM fr w s.heap H locs → W p l e { frames := 1, cells := 0, slots := 0, locals := 21 } s m args below meth c H locs 0 0 (zZv D tc lo ad zshM znnM fr below args s w_) (F0 m 127 ls [.int s1, .ref (ad 0)]) := by
    intro s1 w ls H locs h hl hE
    unfold fX8_go_127 at h
    obtain ⟨w162, ew162, h⟩ := zbdE h
    refine zr_putI S hK hE zcl_X8 (zm_0 w) 11 (Nat.le_of_ble_eq_true rfl) rfl rfl rfl qf_X8_235 dX8_go_127 ew162 (fun H locs hE => ?_)
    refine lv_aload_n hx hb dX8_go_130 rfl (lv_at hl 0 rfl) ?_
    refine lv_aload_n hx hb dX8_go_131 rfl (lv_at hl 0 rfl) ?_
    refine zr_getA S hK hE zcl_X8 (zm_0 w162) 7 (Nat.le_of_ble_eq_true rfl) (q := 7) rfl qf_X8_28 dX8_go_132 ?_
    refine lv_aload_n hx hb dX8_go_135 rfl (lv_at hl 0 rfl) ?_
    obtain ⟨x163, ex163, h⟩ := zbdE h
    refine zr_getI S hK hE zcl_X8 (zm_0 w162) 10 (Nat.le_of_ble_eq_true rfl) rfl qf_X8_229 dX8_go_136 ex163 ?_
    obtain ⟨x164, ex164, h⟩ := zbdE h
    refine zr_iald S hK hE (zm_7 w162) dX8_go_139 ex164 ?_
    obtain ⟨w165, ew165, h⟩ := zbdE h
    refine zr_putI S hK hE zcl_X8 (zm_0 w162) 12 (Nat.le_of_ble_eq_true rfl) rfl rfl rfl qf_X8_241 dX8_go_140 ew165 (fun H locs hE => ?_)
    refine lv_aload_n hx hb dX8_go_143 rfl (lv_at hl 0 rfl) ?_
    refine lv_aload_n hx hb dX8_go_144 rfl (lv_at hl 0 rfl) ?_
    obtain ⟨x166, ex166, h⟩ := zbdE h
    refine zr_getI S hK hE zcl_X8 (zm_0 w165) 9 (Nat.le_of_ble_eq_true rfl) rfl qf_X8_226 dX8_go_145 ex166 ?_
    obtain ⟨w167, ew167, h⟩ := zbdE h
    refine zr_putI S hK hE zcl_X8 (zm_0 w165) 13 (Nat.le_of_ble_eq_true rfl) rfl rfl rfl qf_X8_232 dX8_go_148 ew167 (fun H locs hE => ?_)
    refine lv_goto (tgt := 303) hx hb dX8_go_151 (by decide) ?_
    exact zr_vret S hE hr hlk h dX8_go_303
  have L93 : ∀ (n : Nat) (l1 : Int32) (w : zz_W) (ls : Array Slot) (H : Heap) (locs : List Loc), fX8_go_93 n l1 w = some w_ → lv_has ls 2 [(0, .ref (ad 0)), (1, .int l1)] → zE D tc lo ad zshM znnM fr w s.heap H locs → W p l e { frames := 1, cells := 0, slots := 0, locals := 21 } s m args below meth c H locs 0 0 (zZv D tc lo ad zshM znnM fr below args s w_) (F0 m 93 ls []) := by
    intro n93
    induction n93 with
    | zero => intro l1 w ls H locs h hl hE; rw [fX8_go_93] at h; cases h
    | succ n93 ih93 =>
      intro l1 w ls H locs h hl hE
      rw [fX8_go_93] at h
      refine lv_aload_n hx hb dX8_go_93 rfl (lv_at hl 0 rfl) ?_
      refine lv_aload_n hx hb dX8_go_94 rfl (lv_at hl 0 rfl) ?_
      obtain ⟨x168, ex168, h⟩ := zbdE h
      refine zr_getI S hK hE zcl_X8 (zm_0 w) 9 (Nat.le_of_ble_eq_true rfl) rfl qf_X8_226 dX8_go_95 ex168 ?_
      obtain ⟨x169, w170, ew170, h⟩ := zbd2E h
      refine zr_i (zr_runV (As := [.int x168]) S hX hE (kX8_isLetter l D tc lo ad fr zq x168 w x169 w170 ew170) zyX8_isLetter qm_X8_238 zcl_X8 rfl (zm_0 w) ⟨rfl, rfl⟩ ⟨Nat.le_of_ble_eq_true rfl, Nat.le_of_ble_eq_true rfl⟩ rfl hl.1 rfl (Nat.le_of_ble_eq_true rfl) dX8_go_98 ⟨Nat.zero_le _, Nat.zero_le _⟩) hE (fun H locs hE => ?_)
      refine lv_if_eq (tgt := 117) hx hb dX8_go_101 (by decide) (fun c171 => ?_) (fun c171 => ?_)
      · have h := zif c171 h
        refine lv_aload_n hx hb dX8_go_117 rfl (lv_at hl 0 rfl) ?_
        refine lv_iload_n hx hb dX8_go_118 rfl (lv_at hl 1 rfl) ?_
        refine lv_if_eq (tgt := 126) hx hb dX8_go_119 (by decide) (fun c172 => ?_) (fun c172 => ?_)
        · have h := zif c172 h
          refine lv_iconst (v := 1) hx hb dX8_go_126 (by decide) ?_
          exact J127 1 w170 ls _ _ h (lv_sub hl [0] rfl) hE
        · have h := zif' c172 h
          refine lv_iconst (v := 4) hx hb dX8_go_122 (by decide) ?_
          refine lv_goto (tgt := 127) hx hb dX8_go_123 (by decide) ?_
          exact J127 4 w170 ls _ _ h (lv_sub hl [0] rfl) hE
      · have h := zif' c171 h
        refine lv_aload_n hx hb dX8_go_104 rfl (lv_at hl 0 rfl) ?_
        refine lv_dup hx hb dX8_go_105 rfl ?_
        obtain ⟨x173, ex173, h⟩ := zbdE h
        refine zr_getI S hK hE zcl_X8 (zm_0 w170) 9 (Nat.le_of_ble_eq_true rfl) rfl qf_X8_226 dX8_go_106 ex173 ?_
        refine lv_iconst (v := 1) hx hb dX8_go_109 (by decide) ?_
        refine lv_iadd hx hb dX8_go_110 ?_
        obtain ⟨w174, ew174, h⟩ := zbdE h
        refine zr_putI S hK hE zcl_X8 (zm_0 w170) 9 (Nat.le_of_ble_eq_true rfl) rfl rfl rfl qf_X8_226 dX8_go_111 ew174 (fun H locs hE => ?_)
        refine lv_goto (tgt := 93) hx hb dX8_go_114 (by decide) ?_
        exact ih93 l1 w174 ls _ _ h (lv_sub hl [0, 1] rfl) hE
  have J62 : ∀ (s0 : Int32) (w : zz_W) (ls : Array Slot) (H : Heap) (locs : List Loc), fX8_go_62 s0 w = some w_ → lv_has ls 2 [(0, .ref (ad 0))] → zE D tc lo ad zshM znnM fr w s.heap H locs → W p l e { frames := 1, cells := 0, slots := 0, locals := 21 } s m args below meth c H locs 0 0 (zZv D tc lo ad zshM znnM fr below args s w_) (F0 m 62 ls [.int s0]) := by
    intro s0 w ls H locs h hl hE
    unfold fX8_go_62 at h
    refine lv_istore_n (lv' := [(1, .int s0), (0, .ref (ad 0))]) hx hb dX8_go_62 rfl hl (by decide) rfl (fun ls hl => ?_)
    refine lv_aload_n hx hb dX8_go_63 rfl (lv_at hl 1 rfl) ?_
    obtain ⟨x175, ex175, h⟩ := zbdE h
    refine zr_getI S hK hE zcl_X8 (zm_0 w) 10 (Nat.le_of_ble_eq_true rfl) rfl qf_X8_229 dX8_go_64 ex175 ?_
    refine lv_aload_n hx hb dX8_go_67 rfl (lv_at hl 1 rfl) ?_
    obtain ⟨x176, ex176, h⟩ := zbdE h
    refine zr_getI S hK hE zcl_X8 (zm_0 w) 8 (Nat.le_of_ble_eq_true rfl) rfl qf_X8_222 dX8_go_68 ex176 ?_
    refine lv_icmp_ne (tgt := 82) hx hb dX8_go_71 (by decide) (fun c177 => ?_) (fun c177 => ?_)
    · have h := zif' c177 h
      refine lv_aload_n hx hb dX8_go_82 rfl (lv_at hl 1 rfl) ?_
      refine lv_aload_n hx hb dX8_go_83 rfl (lv_at hl 1 rfl) ?_
      obtain ⟨x178, ex178, h⟩ := zbdE h
      refine zr_getI S hK hE zcl_X8 (zm_0 w) 10 (Nat.le_of_ble_eq_true rfl) rfl qf_X8_229 dX8_go_84 ex178 ?_
      obtain ⟨x179, w180, ew180, h⟩ := zbd2E h
      refine zr_i (zr_runV (As := [.int x178]) S hX hE (kX8_isLetter l D tc lo ad fr zq x178 w x179 w180 ew180) zyX8_isLetter qm_X8_238 zcl_X8 rfl (zm_0 w) ⟨rfl, rfl⟩ ⟨Nat.le_of_ble_eq_true rfl, Nat.le_of_ble_eq_true rfl⟩ rfl hl.1 rfl (Nat.le_of_ble_eq_true rfl) dX8_go_87 ⟨Nat.zero_le _, Nat.zero_le _⟩) hE (fun H locs hE => ?_)
      refine lv_if_eq (tgt := 154) hx hb dX8_go_90 (by decide) (fun c181 => ?_) (fun c181 => ?_)
      · have h := zif c181 h
        refine lv_aload_n hx hb dX8_go_154 rfl (lv_at hl 1 rfl) ?_
        refine lv_aload_n hx hb dX8_go_155 rfl (lv_at hl 1 rfl) ?_
        obtain ⟨x182, ex182, h⟩ := zbdE h
        refine zr_getI S hK hE zcl_X8 (zm_0 w180) 10 (Nat.le_of_ble_eq_true rfl) rfl qf_X8_229 dX8_go_156 ex182 ?_
        obtain ⟨x183, w184, ew184, h⟩ := zbd2E h
        refine zr_i (zr_runV (As := [.int x182]) S hX hE (kX8_isFigure l D tc lo ad fr zq x182 w180 x183 w184 ew184) zyX8_isFigure qm_X8_244 zcl_X8 rfl (zm_0 w180) ⟨rfl, rfl⟩ ⟨Nat.le_of_ble_eq_true rfl, Nat.le_of_ble_eq_true rfl⟩ rfl hl.1 rfl (Nat.le_of_ble_eq_true rfl) dX8_go_159 ⟨Nat.zero_le _, Nat.zero_le _⟩) hE (fun H locs hE => ?_)
        refine lv_if_eq (tgt := 275) hx hb dX8_go_162 (by decide) (fun c185 => ?_) (fun c185 => ?_)
        · have h := zif c185 h
          refine lv_aload_n hx hb dX8_go_275 rfl (lv_at hl 1 rfl) ?_
          refine lv_iconst (v := 3) hx hb dX8_go_276 (by decide) ?_
          obtain ⟨w186, ew186, h⟩ := zbdE h
          refine zr_putI S hK hE zcl_X8 (zm_0 w184) 11 (Nat.le_of_ble_eq_true rfl) rfl rfl rfl qf_X8_235 dX8_go_277 ew186 (fun H locs hE => ?_)
          refine lv_aload_n hx hb dX8_go_280 rfl (lv_at hl 1 rfl) ?_
          refine lv_aload_n hx hb dX8_go_281 rfl (lv_at hl 1 rfl) ?_
          refine zr_getA S hK hE zcl_X8 (zm_0 w186) 7 (Nat.le_of_ble_eq_true rfl) (q := 7) rfl qf_X8_28 dX8_go_282 ?_
          refine lv_aload_n hx hb dX8_go_285 rfl (lv_at hl 1 rfl) ?_
          obtain ⟨x187, ex187, h⟩ := zbdE h
          refine zr_getI S hK hE zcl_X8 (zm_0 w186) 10 (Nat.le_of_ble_eq_true rfl) rfl qf_X8_229 dX8_go_286 ex187 ?_
          obtain ⟨x188, ex188, h⟩ := zbdE h
          refine zr_iald S hK hE (zm_7 w186) dX8_go_289 ex188 ?_
          obtain ⟨w189, ew189, h⟩ := zbdE h
          refine zr_putI S hK hE zcl_X8 (zm_0 w186) 12 (Nat.le_of_ble_eq_true rfl) rfl rfl rfl qf_X8_241 dX8_go_290 ew189 (fun H locs hE => ?_)
          refine lv_aload_n hx hb dX8_go_293 rfl (lv_at hl 1 rfl) ?_
          refine lv_dup hx hb dX8_go_294 rfl ?_
          obtain ⟨x190, ex190, h⟩ := zbdE h
          refine zr_getI S hK hE zcl_X8 (zm_0 w189) 9 (Nat.le_of_ble_eq_true rfl) rfl qf_X8_226 dX8_go_295 ex190 ?_
          refine lv_iconst (v := 1) hx hb dX8_go_298 (by decide) ?_
          refine lv_iadd hx hb dX8_go_299 ?_
          obtain ⟨w191, ew191, h⟩ := zbdE h
          refine zr_putI S hK hE zcl_X8 (zm_0 w189) 9 (Nat.le_of_ble_eq_true rfl) rfl rfl rfl qf_X8_226 dX8_go_300 ew191 (fun H locs hE => ?_)
          exact zr_vret S hE hr hlk h dX8_go_303
        · have h := zif' c185 h
          refine lv_aload_n hx hb dX8_go_165 rfl (lv_at hl 1 rfl) ?_
          refine lv_iconst (v := 0) hx hb dX8_go_166 (by decide) ?_
          obtain ⟨w192, ew192, h⟩ := zbdE h
          refine zr_putI S hK hE zcl_X8 (zm_0 w184) 12 (Nat.le_of_ble_eq_true rfl) rfl rfl rfl qf_X8_241 dX8_go_167 ew192 (fun H locs hE => ?_)
          exact L170 zfuel s0 w192 ls _ _ h (lv_sub hl [1, 0] rfl) hE
      · have h := zif' c181 h
        exact L93 zfuel s0 w180 ls _ _ h (lv_sub hl [1, 0] rfl) hE
    · have h := zif c177 h
      refine lv_aload_n hx hb dX8_go_74 rfl (lv_at hl 1 rfl) ?_
      refine lv_iconst (v := 0) hx hb dX8_go_75 (by decide) ?_
      obtain ⟨w193, ew193, h⟩ := zbdE h
      refine zr_putI S hK hE zcl_X8 (zm_0 w) 11 (Nat.le_of_ble_eq_true rfl) rfl rfl rfl qf_X8_235 dX8_go_76 ew193 (fun H locs hE => ?_)
      refine lv_goto (tgt := 303) hx hb dX8_go_79 (by decide) ?_
      exact zr_vret S hE hr hlk h dX8_go_303
  have J38 : ∀ (w : zz_W) (ls : Array Slot) (H : Heap) (locs : List Loc), fX8_go_38 w = some w_ → lv_has ls 2 [(0, .ref (ad 0))] → zE D tc lo ad zshM znnM fr w s.heap H locs → W p l e { frames := 1, cells := 0, slots := 0, locals := 21 } s m args below meth c H locs 0 0 (zZv D tc lo ad zshM znnM fr below args s w_) (F0 m 38 ls []) := by
    intro w ls H locs h hl hE
    unfold fX8_go_38 at h
    refine lv_aload_n hx hb dX8_go_38 rfl (lv_at hl 0 rfl) ?_
    refine lv_aload_n hx hb dX8_go_39 rfl (lv_at hl 0 rfl) ?_
    obtain ⟨x194, ex194, h⟩ := zbdE h
    refine zr_getI S hK hE zcl_X8 (zm_0 w) 9 (Nat.le_of_ble_eq_true rfl) rfl qf_X8_226 dX8_go_40 ex194 ?_
    obtain ⟨w195, ew195, h⟩ := zbdE h
    refine zr_putI S hK hE zcl_X8 (zm_0 w) 10 (Nat.le_of_ble_eq_true rfl) rfl rfl rfl qf_X8_229 dX8_go_43 ew195 (fun H locs hE => ?_)
    refine lv_aload_n hx hb dX8_go_46 rfl (lv_at hl 0 rfl) ?_
    obtain ⟨x196, ex196, h⟩ := zbdE h
    refine zr_getI S hK hE zcl_X8 (zm_0 w195) 10 (Nat.le_of_ble_eq_true rfl) rfl qf_X8_229 dX8_go_47 ex196 ?_
    refine lv_aload_n hx hb dX8_go_50 rfl (lv_at hl 0 rfl) ?_
    obtain ⟨x197, ex197, h⟩ := zbdE h
    refine zr_getI S hK hE zcl_X8 (zm_0 w195) 13 (Nat.le_of_ble_eq_true rfl) rfl qf_X8_232 dX8_go_51 ex197 ?_
    refine lv_icmp_ne (tgt := 61) hx hb dX8_go_54 (by decide) (fun c198 => ?_) (fun c198 => ?_)
    · have h := zif' c198 h
      refine lv_iconst (v := 0) hx hb dX8_go_61 (by decide) ?_
      exact J62 0 w195 ls _ _ h (lv_sub hl [0] rfl) hE
    · have h := zif c198 h
      refine lv_iconst (v := 1) hx hb dX8_go_57 (by decide) ?_
      refine lv_goto (tgt := 62) hx hb dX8_go_58 (by decide) ?_
      exact J62 1 w195 ls _ _ h (lv_sub hl [0] rfl) hE
  have L0 : ∀ (n : Nat) (w : zz_W) (ls : Array Slot) (H : Heap) (locs : List Loc), fX8_go_0 n w = some w_ → lv_has ls 2 [(0, .ref (ad 0))] → zE D tc lo ad zshM znnM fr w s.heap H locs → W p l e { frames := 1, cells := 0, slots := 0, locals := 21 } s m args below meth c H locs 0 0 (zZv D tc lo ad zshM znnM fr below args s w_) (F0 m 0 ls []) := by
    intro n0
    induction n0 with
    | zero => intro w ls H locs h hl hE; rw [fX8_go_0] at h; cases h
    | succ n0 ih0 =>
      intro w ls H locs h hl hE
      rw [fX8_go_0] at h
      refine lv_aload_n hx hb dX8_go_0 rfl (lv_at hl 0 rfl) ?_
      obtain ⟨x199, ex199, h⟩ := zbdE h
      refine zr_getI S hK hE zcl_X8 (zm_0 w) 9 (Nat.le_of_ble_eq_true rfl) rfl qf_X8_226 dX8_go_1 ex199 ?_
      refine lv_aload_n hx hb dX8_go_4 rfl (lv_at hl 0 rfl) ?_
      obtain ⟨x200, ex200, h⟩ := zbdE h
      refine zr_getI S hK hE zcl_X8 (zm_0 w) 8 (Nat.le_of_ble_eq_true rfl) rfl qf_X8_222 dX8_go_5 ex200 ?_
      refine lv_icmp_ge (tgt := 38) hx hb dX8_go_8 (by decide) (fun c201 => ?_) (fun c201 => ?_)
      · have h := zif c201 h
        exact J38 w ls _ _ h (lv_sub hl [0] rfl) hE
      · have h := zif' c201 h
        refine lv_aload_n hx hb dX8_go_11 rfl (lv_at hl 0 rfl) ?_
        refine zr_getA S hK hE zcl_X8 (zm_0 w) 7 (Nat.le_of_ble_eq_true rfl) (q := 7) rfl qf_X8_28 dX8_go_12 ?_
        refine lv_aload_n hx hb dX8_go_15 rfl (lv_at hl 0 rfl) ?_
        obtain ⟨x202, ex202, h⟩ := zbdE h
        refine zr_getI S hK hE zcl_X8 (zm_0 w) 9 (Nat.le_of_ble_eq_true rfl) rfl qf_X8_226 dX8_go_16 ex202 ?_
        obtain ⟨x203, ex203, h⟩ := zbdE h
        refine zr_iald S hK hE (zm_7 w) dX8_go_19 ex203 ?_
        refine lv_bipush (v := 32) hx hb dX8_go_20 (by decide) ?_
        refine lv_icmp_ne (tgt := 38) hx hb dX8_go_22 (by decide) (fun c204 => ?_) (fun c204 => ?_)
        · have h := zif' c204 h
          exact J38 w ls _ _ h (lv_sub hl [0] rfl) hE
        · have h := zif c204 h
          refine lv_aload_n hx hb dX8_go_25 rfl (lv_at hl 0 rfl) ?_
          refine lv_dup hx hb dX8_go_26 rfl ?_
          obtain ⟨x205, ex205, h⟩ := zbdE h
          refine zr_getI S hK hE zcl_X8 (zm_0 w) 9 (Nat.le_of_ble_eq_true rfl) rfl qf_X8_226 dX8_go_27 ex205 ?_
          refine lv_iconst (v := 1) hx hb dX8_go_30 (by decide) ?_
          refine lv_iadd hx hb dX8_go_31 ?_
          obtain ⟨w206, ew206, h⟩ := zbdE h
          refine zr_putI S hK hE zcl_X8 (zm_0 w) 9 (Nat.le_of_ble_eq_true rfl) rfl rfl rfl qf_X8_226 dX8_go_32 ew206 (fun H locs hE => ?_)
          refine lv_goto (tgt := 0) hx hb dX8_go_35 (by decide) ?_
          exact ih0 w206 ls _ _ h (lv_sub hl [0] rfl) hE
  refine lv_aload_n hx hb dX8_go_0 rfl (lv_at hl 0 rfl) ?_
  obtain ⟨x10001, ex10001, h⟩ := zbdE h
  refine zr_getI S hK hE zcl_X8 (zm_0 w) 9 (Nat.le_of_ble_eq_true rfl) rfl qf_X8_226 dX8_go_1 ex10001 ?_
  refine lv_aload_n hx hb dX8_go_4 rfl (lv_at hl 0 rfl) ?_
  obtain ⟨x10002, ex10002, h⟩ := zbdE h
  refine zr_getI S hK hE zcl_X8 (zm_0 w) 8 (Nat.le_of_ble_eq_true rfl) rfl qf_X8_222 dX8_go_5 ex10002 ?_
  refine lv_icmp_ge (tgt := 38) hx hb dX8_go_8 (by decide) (fun c10003 => ?_) (fun c10003 => ?_)
  · have h := zif c10003 h
    exact J38 w ls _ _ h (lv_sub hl [0] rfl) hE
  · have h := zif' c10003 h
    refine lv_aload_n hx hb dX8_go_11 rfl (lv_at hl 0 rfl) ?_
    refine zr_getA S hK hE zcl_X8 (zm_0 w) 7 (Nat.le_of_ble_eq_true rfl) (q := 7) rfl qf_X8_28 dX8_go_12 ?_
    refine lv_aload_n hx hb dX8_go_15 rfl (lv_at hl 0 rfl) ?_
    obtain ⟨x10004, ex10004, h⟩ := zbdE h
    refine zr_getI S hK hE zcl_X8 (zm_0 w) 9 (Nat.le_of_ble_eq_true rfl) rfl qf_X8_226 dX8_go_16 ex10004 ?_
    obtain ⟨x10005, ex10005, h⟩ := zbdE h
    refine zr_iald S hK hE (zm_7 w) dX8_go_19 ex10005 ?_
    refine lv_bipush (v := 32) hx hb dX8_go_20 (by decide) ?_
    refine lv_icmp_ne (tgt := 38) hx hb dX8_go_22 (by decide) (fun c10006 => ?_) (fun c10006 => ?_)
    · have h := zif' c10006 h
      exact J38 w ls _ _ h (lv_sub hl [0] rfl) hE
    · have h := zif c10006 h
      refine lv_aload_n hx hb dX8_go_25 rfl (lv_at hl 0 rfl) ?_
      refine lv_dup hx hb dX8_go_26 rfl ?_
      obtain ⟨x10007, ex10007, h⟩ := zbdE h
      refine zr_getI S hK hE zcl_X8 (zm_0 w) 9 (Nat.le_of_ble_eq_true rfl) rfl qf_X8_226 dX8_go_27 ex10007 ?_
      refine lv_iconst (v := 1) hx hb dX8_go_30 (by decide) ?_
      refine lv_iadd hx hb dX8_go_31 ?_
      obtain ⟨w10008, ew10008, h⟩ := zbdE h
      refine zr_putI S hK hE zcl_X8 (zm_0 w) 9 (Nat.le_of_ble_eq_true rfl) rfl rfl rfl qf_X8_226 dX8_go_32 ew10008 (fun H locs hE => ?_)
      refine lv_goto (tgt := 0) hx hb dX8_go_35 (by decide) ?_
      exact L0 zfuel w10008 ls _ _ h (lv_sub hl [0] rfl) hE
set_option maxHeartbeats 4000000 in
set_option maxRecDepth 100000 in
theorem kX8_isKnown (l : Launch) (D : va_G) (tc : Nat → ClassId) (lo : Nat) (ad : Nat → Nat) (fr : va_W) (zq : zz_Q) (w : zz_W) (r : Int32) (w_ : zz_W) (h : fX8_isKnown w = some (r, w_)) : zMi l yX8_isKnown cX8_isKnown 1 (some .boolean) { frames := 2, cells := 0, slots := 0, locals := 45 } D tc lo ad zshM znnM fr zq [.ref (ad 0)] w r w_ := by
  refine zr_entry (by decide) (Nat.le_of_ble_eq_true rfl) fun p e s m args below meth c ls S hX hr hlk hE hl => ?_
  have S : CallFix p m c cX8_isKnown 1 s args (Cond.code yX8_isKnown cX8_isKnown 1 (some .boolean) :: zw_tb) RX8 := S
  have hx := S.1
  have hb := S.2.1
  have hK := hX.2.1
  have hl : lv_has ls 1 [(0, .ref (ad 0))] := hl
  unfold fX8_isKnown at h
  refine lv_aload_n hx hb dX8_isKnown_0 rfl (lv_at hl 0 rfl) ?_
  refine zr_getA S hK hE zcl_X8 (zm_0 w) 0 (Nat.le_of_ble_eq_true rfl) (q := 1) rfl qf_X8_9 dX8_isKnown_1 ?_
  refine lv_bipush (v := 12) hx hb dX8_isKnown_4 (by decide) ?_
  obtain ⟨x10001, ex10001, h⟩ := zbdE h
  refine zr_iald S hK hE (zm_1 w) dX8_isKnown_6 ex10001 ?_
  refine lv_if_lt (tgt := 45) hx hb dX8_isKnown_7 (by decide) (fun c10002 => ?_) (fun c10002 => ?_)
  · have h := zif c10002 h
    refine lv_iconst (v := 0) hx hb dX8_isKnown_45 (by decide) ?_
    exact zr_zret S hE hr hlk (by decide) h dX8_isKnown_46
  · have h := zif' c10002 h
    refine zr_ldc2 S qd_X8_172 dX8_isKnown_10 ?_
    refine lv_aload_n hx hb dX8_isKnown_13 rfl (lv_at hl 0 rfl) ?_
    refine lv_iconst (v := 4) hx hb dX8_isKnown_14 (by decide) ?_
    obtain ⟨x10003, w10004, ew10004, h⟩ := zbd2E h
    refine zr_i (zr_runV (As := [.int 4]) S hX hE (kX8_sumOf l D tc lo ad fr zq 4 w x10003 w10004 ew10004) zyX8_sumOf qm_X8_151 zcl_X8 rfl (zm_0 w) ⟨rfl, rfl⟩ ⟨Nat.le_of_ble_eq_true rfl, Nat.le_of_ble_eq_true rfl⟩ rfl hl.1 rfl (Nat.le_of_ble_eq_true rfl) dX8_isKnown_15 ⟨Nat.zero_le _, Nat.zero_le _⟩) hE (fun H locs hE => ?_)
    refine lv_i2l hx hb dX8_isKnown_18 rfl ?_
    refine lv_lmul hx hb dX8_isKnown_19 ?_
    refine zr_ldc2 S qd_X8_174 dX8_isKnown_20 ?_
    refine lv_aload_n hx hb dX8_isKnown_23 rfl (lv_at hl 0 rfl) ?_
    refine lv_aload_n hx hb dX8_isKnown_24 rfl (lv_at hl 0 rfl) ?_
    refine zr_getA S hK hE zcl_X8 (zm_0 w10004) 0 (Nat.le_of_ble_eq_true rfl) (q := 1) rfl qf_X8_9 dX8_isKnown_25 ?_
    refine lv_bipush (v := 12) hx hb dX8_isKnown_28 (by decide) ?_
    obtain ⟨x10005, ex10005, h⟩ := zbdE h
    refine zr_iald S hK hE (zm_1 w10004) dX8_isKnown_30 ex10005 ?_
    refine lv_iconst (v := 4) hx hb dX8_isKnown_31 (by decide) ?_
    obtain ⟨x10006, w10007, ew10007, h⟩ := zbd2E h
    refine zr_i (zr_runV (As := [.int x10005, .int 4]) S hX hE (kX8_of l D tc lo ad fr zq x10005 4 w10004 x10006 w10007 ew10007) zyX8_of qm_X8_103 zcl_X8 rfl (zm_0 w10004) ⟨rfl, rfl⟩ ⟨Nat.le_of_ble_eq_true rfl, Nat.le_of_ble_eq_true rfl⟩ rfl hl.1 rfl (Nat.le_of_ble_eq_true rfl) dX8_isKnown_32 ⟨Nat.zero_le _, Nat.zero_le _⟩) hE (fun H locs hE => ?_)
    refine lv_i2l hx hb dX8_isKnown_35 rfl ?_
    refine lv_lmul hx hb dX8_isKnown_36 ?_
    refine W.lcmp hx hb dX8_isKnown_37 ?_
    refine lv_if_gt (tgt := 45) hx hb dX8_isKnown_38 (by decide) (fun c10008 => ?_) (fun c10008 => ?_)
    · have h := zif c10008 h
      refine lv_iconst (v := 0) hx hb dX8_isKnown_45 (by decide) ?_
      exact zr_zret S hE hr hlk (by decide) h dX8_isKnown_46
    · have h := zif' c10008 h
      refine lv_iconst (v := 1) hx hb dX8_isKnown_41 (by decide) ?_
      refine lv_goto (tgt := 46) hx hb dX8_isKnown_42 (by decide) ?_
      exact zr_zret S hE hr hlk (by decide) h dX8_isKnown_46
set_option maxHeartbeats 4000000 in
set_option maxRecDepth 100000 in
theorem kX8_house (l : Launch) (D : va_G) (tc : Nat → ClassId) (lo : Nat) (ad : Nat → Nat) (fr : va_W) (zq : zz_Q) (a1 : Int32) (w : zz_W) (r : Int32) (w_ : zz_W) (h : fX8_house a1 w = some (r, w_)) : zMi l yX8_house cX8_house 2 (some .int) { frames := 3, cells := 0, slots := 0, locals := 65 } D tc lo ad zshM znnM fr zq [.ref (ad 0), .int a1] w r w_ := by
  refine zr_entry (by decide) (Nat.le_of_ble_eq_true rfl) fun p e s m args below meth c ls S hX hr hlk hE hl => ?_
  have S : CallFix p m c cX8_house 2 s args (Cond.code yX8_house cX8_house 2 (some .int) :: zw_tb) RX8 := S
  have hx := S.1
  have hb := S.2.1
  have hK := hX.2.1
  have hl : lv_has ls 2 [(0, .ref (ad 0)), (1, .int a1)] := hl
  unfold fX8_house at h
  refine lv_iload_n hx hb dX8_house_0 rfl (lv_at hl 1 rfl) ?_
  by_cases c10002 : a1 = 0
  · refine lv_tableIn (off := 55) (tgt := 56) hx hb dX8_house_1 (by rw [c10002]; decide) (by rw [c10002]; decide) (by rw [c10002]; decide) (by decide) ?_
    have h := zif c10002 h
    refine lv_aload_n hx hb dX8_house_56 rfl (lv_at hl 0 rfl) ?_
    refine zr_getA S hK hE zcl_X8 (zm_0 w) 0 (Nat.le_of_ble_eq_true rfl) (q := 1) rfl qf_X8_9 dX8_house_57 ?_
    refine lv_iconst (v := 5) hx hb dX8_house_60 (by decide) ?_
    refine lv_iload_n hx hb dX8_house_61 rfl (lv_at hl 1 rfl) ?_
    refine lv_iadd hx hb dX8_house_62 ?_
    obtain ⟨x10001, ex10001, h⟩ := zbdE h
    refine zr_iald S hK hE (zm_1 w) dX8_house_63 ex10001 ?_
    exact zr_iret S hE hr hlk h dX8_house_64
  have h := zif' c10002 h
  by_cases c10004 : a1 = 1
  · refine lv_tableIn (off := 55) (tgt := 56) hx hb dX8_house_1 (by rw [c10004]; decide) (by rw [c10004]; decide) (by rw [c10004]; decide) (by decide) ?_
    have h := zif c10004 h
    refine lv_aload_n hx hb dX8_house_56 rfl (lv_at hl 0 rfl) ?_
    refine zr_getA S hK hE zcl_X8 (zm_0 w) 0 (Nat.le_of_ble_eq_true rfl) (q := 1) rfl qf_X8_9 dX8_house_57 ?_
    refine lv_iconst (v := 5) hx hb dX8_house_60 (by decide) ?_
    refine lv_iload_n hx hb dX8_house_61 rfl (lv_at hl 1 rfl) ?_
    refine lv_iadd hx hb dX8_house_62 ?_
    obtain ⟨x10003, ex10003, h⟩ := zbdE h
    refine zr_iald S hK hE (zm_1 w) dX8_house_63 ex10003 ?_
    exact zr_iret S hE hr hlk h dX8_house_64
  have h := zif' c10004 h
  by_cases c10006 : a1 = 2
  · refine lv_tableIn (off := 55) (tgt := 56) hx hb dX8_house_1 (by rw [c10006]; decide) (by rw [c10006]; decide) (by rw [c10006]; decide) (by decide) ?_
    have h := zif c10006 h
    refine lv_aload_n hx hb dX8_house_56 rfl (lv_at hl 0 rfl) ?_
    refine zr_getA S hK hE zcl_X8 (zm_0 w) 0 (Nat.le_of_ble_eq_true rfl) (q := 1) rfl qf_X8_9 dX8_house_57 ?_
    refine lv_iconst (v := 5) hx hb dX8_house_60 (by decide) ?_
    refine lv_iload_n hx hb dX8_house_61 rfl (lv_at hl 1 rfl) ?_
    refine lv_iadd hx hb dX8_house_62 ?_
    obtain ⟨x10005, ex10005, h⟩ := zbdE h
    refine zr_iald S hK hE (zm_1 w) dX8_house_63 ex10005 ?_
    exact zr_iret S hE hr hlk h dX8_house_64
  have h := zif' c10006 h
  by_cases c10008 : a1 = 3
  · refine lv_tableIn (off := 55) (tgt := 56) hx hb dX8_house_1 (by rw [c10008]; decide) (by rw [c10008]; decide) (by rw [c10008]; decide) (by decide) ?_
    have h := zif c10008 h
    refine lv_aload_n hx hb dX8_house_56 rfl (lv_at hl 0 rfl) ?_
    refine zr_getA S hK hE zcl_X8 (zm_0 w) 0 (Nat.le_of_ble_eq_true rfl) (q := 1) rfl qf_X8_9 dX8_house_57 ?_
    refine lv_iconst (v := 5) hx hb dX8_house_60 (by decide) ?_
    refine lv_iload_n hx hb dX8_house_61 rfl (lv_at hl 1 rfl) ?_
    refine lv_iadd hx hb dX8_house_62 ?_
    obtain ⟨x10007, ex10007, h⟩ := zbdE h
    refine zr_iald S hK hE (zm_1 w) dX8_house_63 ex10007 ?_
    exact zr_iret S hE hr hlk h dX8_house_64
  have h := zif' c10008 h
  by_cases c10010 : a1 = 4
  · refine lv_tableIn (off := 55) (tgt := 56) hx hb dX8_house_1 (by rw [c10010]; decide) (by rw [c10010]; decide) (by rw [c10010]; decide) (by decide) ?_
    have h := zif c10010 h
    refine lv_aload_n hx hb dX8_house_56 rfl (lv_at hl 0 rfl) ?_
    refine zr_getA S hK hE zcl_X8 (zm_0 w) 0 (Nat.le_of_ble_eq_true rfl) (q := 1) rfl qf_X8_9 dX8_house_57 ?_
    refine lv_iconst (v := 5) hx hb dX8_house_60 (by decide) ?_
    refine lv_iload_n hx hb dX8_house_61 rfl (lv_at hl 1 rfl) ?_
    refine lv_iadd hx hb dX8_house_62 ?_
    obtain ⟨x10009, ex10009, h⟩ := zbdE h
    refine zr_iald S hK hE (zm_1 w) dX8_house_63 ex10009 ?_
    exact zr_iret S hE hr hlk h dX8_house_64
  have h := zif' c10010 h
  by_cases c10012 : a1 = 5
  · refine lv_tableIn (off := 55) (tgt := 56) hx hb dX8_house_1 (by rw [c10012]; decide) (by rw [c10012]; decide) (by rw [c10012]; decide) (by decide) ?_
    have h := zif c10012 h
    refine lv_aload_n hx hb dX8_house_56 rfl (lv_at hl 0 rfl) ?_
    refine zr_getA S hK hE zcl_X8 (zm_0 w) 0 (Nat.le_of_ble_eq_true rfl) (q := 1) rfl qf_X8_9 dX8_house_57 ?_
    refine lv_iconst (v := 5) hx hb dX8_house_60 (by decide) ?_
    refine lv_iload_n hx hb dX8_house_61 rfl (lv_at hl 1 rfl) ?_
    refine lv_iadd hx hb dX8_house_62 ?_
    obtain ⟨x10011, ex10011, h⟩ := zbdE h
    refine zr_iald S hK hE (zm_1 w) dX8_house_63 ex10011 ?_
    exact zr_iret S hE hr hlk h dX8_house_64
  have h := zif' c10012 h
  by_cases c10014 : a1 = 6
  · refine lv_tableIn (off := 55) (tgt := 56) hx hb dX8_house_1 (by rw [c10014]; decide) (by rw [c10014]; decide) (by rw [c10014]; decide) (by decide) ?_
    have h := zif c10014 h
    refine lv_aload_n hx hb dX8_house_56 rfl (lv_at hl 0 rfl) ?_
    refine zr_getA S hK hE zcl_X8 (zm_0 w) 0 (Nat.le_of_ble_eq_true rfl) (q := 1) rfl qf_X8_9 dX8_house_57 ?_
    refine lv_iconst (v := 5) hx hb dX8_house_60 (by decide) ?_
    refine lv_iload_n hx hb dX8_house_61 rfl (lv_at hl 1 rfl) ?_
    refine lv_iadd hx hb dX8_house_62 ?_
    obtain ⟨x10013, ex10013, h⟩ := zbdE h
    refine zr_iald S hK hE (zm_1 w) dX8_house_63 ex10013 ?_
    exact zr_iret S hE hr hlk h dX8_house_64
  have h := zif' c10014 h
  by_cases c10017 : a1 = 7
  · refine lv_tableIn (off := 64) (tgt := 65) hx hb dX8_house_1 (by rw [c10017]; decide) (by rw [c10017]; decide) (by rw [c10017]; decide) (by decide) ?_
    have h := zif c10017 h
    refine lv_aload_n hx hb dX8_house_65 rfl (lv_at hl 0 rfl) ?_
    refine zr_getA S hK hE zcl_X8 (zm_0 w) 0 (Nat.le_of_ble_eq_true rfl) (q := 1) rfl qf_X8_9 dX8_house_66 ?_
    refine lv_bipush (v := 12) hx hb dX8_house_69 (by decide) ?_
    obtain ⟨x10015, ex10015, h⟩ := zbdE h
    refine zr_iald S hK hE (zm_1 w) dX8_house_71 ex10015 ?_
    refine lv_if_ge (tgt := 79) hx hb dX8_house_72 (by decide) (fun c10016 => ?_) (fun c10016 => ?_)
    · have h := zif c10016 h
      refine lv_iconst (v := 1) hx hb dX8_house_79 (by decide) ?_
      exact zr_iret S hE hr hlk h dX8_house_80
    · have h := zif' c10016 h
      refine lv_iconst (v := 0) hx hb dX8_house_75 (by decide) ?_
      refine lv_goto (tgt := 80) hx hb dX8_house_76 (by decide) ?_
      exact zr_iret S hE hr hlk h dX8_house_80
  have h := zif' c10017 h
  by_cases c10022 : a1 = 8
  · refine lv_tableIn (off := 80) (tgt := 81) hx hb dX8_house_1 (by rw [c10022]; decide) (by rw [c10022]; decide) (by rw [c10022]; decide) (by decide) ?_
    have h := zif c10022 h
    refine lv_aload_n hx hb dX8_house_81 rfl (lv_at hl 0 rfl) ?_
    obtain ⟨x10018, w10019, ew10019, h⟩ := zbd2E h
    refine zr_i (zr_runV (As := []) S hX hE (kX8_greatest l D tc lo ad fr zq w x10018 w10019 ew10019) zyX8_greatest qm_X8_177 zcl_X8 rfl (zm_0 w) ⟨rfl, rfl⟩ ⟨Nat.le_of_ble_eq_true rfl, Nat.le_of_ble_eq_true rfl⟩ rfl hl.1 rfl (Nat.le_of_ble_eq_true rfl) dX8_house_82 ⟨Nat.zero_le _, Nat.zero_le _⟩) hE (fun H locs hE => ?_)
    obtain ⟨x10020, w10021, ew10021, h⟩ := zbd2E h
    refine zr_i (zr_runS (As := [.int x10018]) S hX hE (kX8_orNothing l D tc lo ad fr zq x10018 w10019 x10020 w10021 ew10021) zyX8_orNothing qm_X8_180 ⟨rfl, rfl⟩ ⟨Nat.le_of_ble_eq_true rfl, Nat.le_of_ble_eq_true rfl⟩ rfl hl.1 rfl (Nat.le_of_ble_eq_true rfl) dX8_house_85 ⟨Nat.zero_le _, Nat.zero_le _⟩) hE (fun H locs hE => ?_)
    exact zr_iret S hE hr hlk h dX8_house_88
  have h := zif' c10022 h
  by_cases c10026 : a1 = 9
  · refine lv_tableIn (off := 88) (tgt := 89) hx hb dX8_house_1 (by rw [c10026]; decide) (by rw [c10026]; decide) (by rw [c10026]; decide) (by decide) ?_
    have h := zif c10026 h
    refine lv_aload_n hx hb dX8_house_89 rfl (lv_at hl 0 rfl) ?_
    obtain ⟨x10023, w10024, ew10024, h⟩ := zbd2E h
    refine zr_i (zr_runV (As := []) S hX hE (kX8_isKnown l D tc lo ad fr zq w x10023 w10024 ew10024) zyX8_isKnown qm_X8_183 zcl_X8 rfl (zm_0 w) ⟨rfl, rfl⟩ ⟨Nat.le_of_ble_eq_true rfl, Nat.le_of_ble_eq_true rfl⟩ rfl hl.1 rfl (Nat.le_of_ble_eq_true rfl) dX8_house_90 ⟨Nat.zero_le _, Nat.zero_le _⟩) hE (fun H locs hE => ?_)
    refine lv_if_eq (tgt := 100) hx hb dX8_house_93 (by decide) (fun c10025 => ?_) (fun c10025 => ?_)
    · have h := zif c10025 h
      refine lv_iconst (v := 0) hx hb dX8_house_100 (by decide) ?_
      exact zr_iret S hE hr hlk h dX8_house_101
    · have h := zif' c10025 h
      refine lv_iconst (v := 1) hx hb dX8_house_96 (by decide) ?_
      refine lv_goto (tgt := 101) hx hb dX8_house_97 (by decide) ?_
      exact zr_iret S hE hr hlk h dX8_house_101
  have h := zif' c10026 h
  refine lv_tableOut (tgt := 102) hx hb dX8_house_1 (by have tc10002 := lv_neT c10002 (a := 0) (by decide); have tc10004 := lv_neT c10004 (a := 1) (by decide); have tc10006 := lv_neT c10006 (a := 2) (by decide); have tc10008 := lv_neT c10008 (a := 3) (by decide); have tc10010 := lv_neT c10010 (a := 4) (by decide); have tc10012 := lv_neT c10012 (a := 5) (by decide); have tc10014 := lv_neT c10014 (a := 6) (by decide); have tc10017 := lv_neT c10017 (a := 7) (by decide); have tc10022 := lv_neT c10022 (a := 8) (by decide); have tc10026 := lv_neT c10026 (a := 9) (by decide); omega) (by decide) ?_
  refine zr_ldc S qc_X8_97 dX8_house_102 ?_
  exact zr_iret S hE hr hlk h dX8_house_104
