noncomputable def fX8_in (a1 : Int32) (a2 : Int32) (a3 : Int32) (w : zz_W) : Option (Int32 × zz_W) :=
  if a1 < a2 then
    (some (0, w))
    else
    (if a3 < a1 then
    (some (0, w))
    else
    (some (1, w)))
noncomputable def fX8_isRun (a1 : Int32) (w : zz_W) : Option (Int32 × zz_W) :=
  zbd (zldI w 1 1436 1) fun x5 =>
    zbd2 (fX8_in a1 0 (x5 - 1) w) fun x6 w7 =>
    zbd (zboo x6) fun x8 =>
    some (x8, w7)
noncomputable def fX8_isUnder_19 (a1 : Int32) (a2 : Int32) (l0 : Int32) (l1 : Int32) (w : zz_W) : Option (Int32 × zz_W) :=
    if l1 = 2 then
    (if l0 = 4 then
    (some (1, w))
    else
    (some (0, w)))
    else
    (some (0, w))
noncomputable def fX8_isUnder (a1 : Int32) (a2 : Int32) (w : zz_W) : Option (Int32 × zz_W) :=
  if a2 = 0 then
    (some (1, w))
    else
    (if a1 = a2 then
    (some (1, w))
    else
    (if a2 = 1 then
    (if a1 = 3 then
    (some (1, w))
    else
    (fX8_isUnder_19 a1 a2 a1 a2 w))
    else
    (fX8_isUnder_19 a1 a2 a1 a2 w)))
noncomputable def fX8_of (a1 : Int32) (a2 : Int32) (w : zz_W) : Option (Int32 × zz_W) :=
  zbd (zldI w 1 1436 ((14 + (5 * a1)) + a2)) fun x2 =>
    some (x2, w)
noncomputable def fX8_as (a1 : Int32) (a2 : Int32) (w : zz_W) : Option (Int32 × zz_W) :=
  zbd2 (fX8_isRun a1 w) fun x14 w15 =>
    if x14 = 0 then
    (some ((-1000000001), w15))
    else
    (zbd2 (fX8_in a2 0 5 w15) fun x17 w18 =>
    if x17 = 0 then
    (some ((-1000000001), w18))
    else
    (zbd2 (fX8_of a1 0 w18) fun x20 w21 =>
    zbd2 (fX8_isUnder x20 a2 w21) fun x22 w23 =>
    if x22 = 0 then
    (some ((-1000000012), w23))
    else
    (zbd2 (fX8_of a1 3 w23) fun x25 w26 =>
    some (x25, w26))))
noncomputable def fX8_isSlot (a1 : Int32) (w : zz_W) : Option (Int32 × zz_W) :=
  zbd2 (fX8_in a1 0 4 w) fun x4 w5 =>
    zbd (zboo x4) fun x6 =>
    some (x6, w5)
noncomputable def fX8_ask (a1 : Int32) (a2 : Int32) (w : zz_W) : Option (Int32 × zz_W) :=
  zbd2 (fX8_isSlot a1 w) fun x16 w17 =>
    if x16 = 0 then
    (some ((-1000000001), w17))
    else
    (zbd2 (fX8_in a2 0 5 w17) fun x19 w20 =>
    if x19 = 0 then
    (some ((-1000000001), w20))
    else
    (zbd (zldI w20 18 5 a1) fun x22 =>
    if x22 = 0 then
    (some ((-1000000011), w20))
    else
    (zbd (zldI w20 18 5 a1) fun x24 =>
    if x24 = 1 then
    (zbd (zldI w20 19 5 a1) fun x26 =>
    zbd2 (fX8_isUnder x26 a2 w20) fun x27 w28 =>
    if x27 = 0 then
    (some ((-1000000012), w28))
    else
    (zbd (zldI w28 20 5 a1) fun x30 =>
    some (x30, w28)))
    else
    (some ((-1000000012), w20)))))
noncomputable def fX8_copyAll_2 (a1 : Nat) (a2 : Nat) : Nat → Int32 → zz_W → Option (zz_W)
  | 0, _, _ => none
  | n + 1, l2, w =>
    if 1436 ≤ l2 then
    (some w)
    else
    (zbd (zldI w a1 1436 l2) fun x6 =>
    zbd (zstI w a2 1436 l2 x6) fun w7 =>
    zbd (some (l2 + 1)) fun x8 =>
    fX8_copyAll_2 a1 a2 n x8 w7)
noncomputable def fX8_copyAll (a1 : Nat) (a2 : Nat) (w : zz_W) : Option (zz_W) :=
  zgrd (zisM a1 (.inl (0, 1436))) <|
  zgrd (zisM a2 (.inl (0, 1436))) <|
  fX8_copyAll_2 a1 a2 zfuel 0 w
noncomputable def fX8_back (w : zz_W) : Option (Int32 × zz_W) :=
  zbd (some (zgI w 0 3)) fun x5 =>
    if x5 = 0 then
    (some ((-1000000002), w))
    else
    (zbd (fX8_copyAll 2 1 w) fun w7 =>
    zbd (zldI w7 1 1436 1) fun x8 =>
    some (x8, w7))
noncomputable def fX8_becomes (a1 : Int32) (a2 : Int32) (w : zz_W) : Option (Int32 × zz_W) :=
  zbd (zldI w 1 1436 a1) fun x3 =>
    zbd (zstI w 1 1436 a1 a2) fun w4 =>
    some (x3, w4)
noncomputable def fX8_draw (w : zz_W) : Option (Int32 × zz_W) :=
  zbd (zldI w 1 1436 0) fun x4 =>
    zbd (zstI w 1 1436 0 ((x4 * 1103515245) + 12345)) fun w5 =>
    zbd (zldI w5 1 1436 0) fun x6 =>
    some ((x6.toUInt32 >>> (Int32.toUInt32 8 &&& Int32.toUInt32 31)).toInt32, w5)
noncomputable def fX8_sumOf_4 (a1 : Int32) : Nat → Int32 → Int32 → Int32 → zz_W → Option (Int32 × zz_W)
  | 0, _, _, _, _ => none
  | n + 1, l1, l2, l3, w =>
    zbd (zldI w 1 1436 1) fun x7 =>
    if x7 ≤ l3 then
    (some (l2, w))
    else
    (zbd2 (fX8_of l3 l1 w) fun x9 w10 =>
    zbd (some (l2 + x9)) fun x11 =>
    zbd (some (l3 + 1)) fun x12 =>
    fX8_sumOf_4 a1 n l1 x11 x12 w10)
noncomputable def fX8_sumOf (a1 : Int32) (w : zz_W) : Option (Int32 × zz_W) :=
  fX8_sumOf_4 a1 zfuel a1 0 0 w
noncomputable def fX8_builds_13 : Nat → Int32 → Int32 → zz_W → Option (zz_W)
  | 0, _, _, _ => none
  | n + 1, l1, l2, w =>
    zbd2 (fX8_of l2 2 w) fun x14 w15 =>
    if l1 < x14 then
    (zbd (zstI w15 1 1436 12 l2) fun w17 =>
    some w17)
    else
    (zbd2 (fX8_of l2 2 w15) fun x18 w19 =>
    zbd (some (l1 - x18)) fun x20 =>
    zbd (some (l2 + 1)) fun x21 =>
    fX8_builds_13 n x20 x21 w19)
noncomputable def fX8_builds (w : zz_W) : Option (zz_W) :=
  zbd2 (fX8_draw w) fun x22 w23 =>
    zbd2 (fX8_sumOf 2 w23) fun x24 w25 =>
    zbd (zrem x22 x24) fun x26 =>
    fX8_builds_13 zfuel x26 0 w25
noncomputable def fX8_within (a1 : Int32) (a2 : Int32) (a3 : Int32) (w : zz_W) : Option (Int32 × zz_W) :=
  if a2 ≤ a1 then
    (if a1 ≤ a3 then
    (some (a1, w))
    else
    (some (a3, w)))
    else
    (some (a2, w))
noncomputable def fX8_doesPass_120 (a1 : Int32) (a2 : Int32) (l3 : Int32) (l4 : Int32) (w : zz_W) : Option (Int32 × zz_W) :=
    if l3 ≤ 0 then
    (some (0, w))
    else
    (if l4 = 5 then
    (some (1, w))
    else
    (some (0, w)))
noncomputable def fX8_doesPass (a1 : Int32) (a2 : Int32) (w : zz_W) : Option (Int32 × zz_W) :=
  zbd (zdiv a2 6) fun x33 =>
    zbd2 (fX8_of a1 1 w) fun x34 w35 =>
    zbd (zdiv x34 6) fun x36 =>
    zbd (some (x33 - x36)) fun x37 =>
    zbd (zrem a2 6) fun x38 =>
    zbd2 (fX8_of a1 1 w35) fun x39 w40 =>
    zbd (zrem x39 6) fun x41 =>
    zbd2 (fX8_of a1 0 w40) fun x42 w43 =>
    if x42 = 2 then
    (if x37 = 0 then
    (if x38 < x41 then
    (some (0, w43))
    else
    (some (1, w43)))
    else
    (some (0, w43)))
    else if x42 = 3 then
    (if x37 < 0 then
    (some (0, w43))
    else
    (zbd2 (fX8_within (x41 + x37) 0 5 w43) fun x48 w49 =>
    if x38 = x48 then
    (some (1, w49))
    else
    (some (0, w49))))
    else if x42 = 4 then
    (if x37 = 0 then
    (if x41 ≤ x38 then
    (some (1, w43))
    else
    (fX8_doesPass_120 a1 a2 x37 x38 w43))
    else
    (fX8_doesPass_120 a1 a2 x37 x38 w43))
    else if x42 = 5 then
    (if x38 = x41 then
    (some (1, w43))
    else
    (if (x38 - x41) = 3 then
    (some (1, w43))
    else
    (if (x41 - x38) = 3 then
    (some (1, w43))
    else
    (some (0, w43)))))
    else 
    (if x37 < 0 then
    (some (0, w43))
    else
    (if x38 = x41 then
    (some (1, w43))
    else
    (some (0, w43))))
noncomputable def fX8_doesTell_33 (a1 : Int32) (a2 : Int32) (a3 : Int32) (l1 : Int32) (l2 : Int32) (l3 : Int32) (l4 : Int32) (l5 : Int32) (s0 : Int32) (w : zz_W) : Option (Int32 × zz_W) :=
    if l2 = 0 then
    (if l4 = 0 then
    (some (0, w))
    else
    (if l5 = 5 then
    (some (1, w))
    else
    (if s0 = 0 then
    (some (0, w))
    else
    (zbd2 (fX8_of l1 3 w) fun x31 w32 =>
    if 4 ≤ x31 then
    (some (0, w32))
    else
    (some (1, w32))))))
    else if l2 = 1 then
    (if l4 = 0 then
    (some (0, w))
    else
    (if s0 = 0 then
    (if l5 = 5 then
    (zbd (zdiv l3 6) fun x38 =>
    zbd (zrem x38 2) fun x39 =>
    if x39 = 0 then
    (some (1, w))
    else
    (some (0, w)))
    else
    (some (1, w)))
    else
    (zbd2 (fX8_of l1 3 w) fun x41 w42 =>
    if 7 ≤ x41 then
    (some (0, w42))
    else
    (some (1, w42)))))
    else if l2 = 2 then
    (if l4 = 0 then
    (some (0, w))
    else
    (if s0 = 0 then
    (some (0, w))
    else
    (some (1, w))))
    else 
    (zbd (zboo l4) fun x48 =>
    some (x48, w))
noncomputable def fX8_doesTell_28 (a1 : Int32) (a2 : Int32) (a3 : Int32) (l1 : Int32) (l2 : Int32) (l3 : Int32) (l4 : Int32) (l5 : Int32) (w : zz_W) : Option (Int32 × zz_W) :=
    fX8_doesTell_33 a1 a2 a3 l1 l2 l3 l4 l5 1 w
noncomputable def fX8_doesTell (a1 : Int32) (a2 : Int32) (a3 : Int32) (w : zz_W) : Option (Int32 × zz_W) :=
  zbd2 (fX8_doesPass a1 a3 w) fun x49 w50 =>
    zbd2 (fX8_of a1 0 w50) fun x51 w52 =>
    if x51 = 2 then
    (fX8_doesTell_28 a1 a2 a3 a1 a2 a3 x49 x51 w52)
    else
    (if x51 = 4 then
    (fX8_doesTell_28 a1 a2 a3 a1 a2 a3 x49 x51 w52)
    else
    (fX8_doesTell_33 a1 a2 a3 a1 a2 a3 x49 x51 0 w52))
noncomputable def fX8_oddsToBeTold_15 (a1 : Int32) (a2 : Int32) (l1 : Int32) (s0 : Int32) (w : zz_W) : Option (Int32 × zz_W) :=
    if l1 = 0 then
    (some (s0, w))
    else
    (some (100 - s0, w))
noncomputable def fX8_oddsToBeTold (a1 : Int32) (a2 : Int32) (w : zz_W) : Option (Int32 × zz_W) :=
  if a2 = 3 then
    (fX8_oddsToBeTold_15 a1 a2 a1 0 w)
    else
    (zbd (zldI w 1 1436 3) fun x6 =>
    fX8_oddsToBeTold_15 a1 a2 a1 x6 w)
noncomputable def fX8_put (a1 : Int32) (a2 : Int32) (a3 : Int32) (w : zz_W) : Option (zz_W) :=
  zbd (zstI w 1 1436 ((14 + (5 * a1)) + a2) a3) fun w2 =>
    some w2
noncomputable def fX8_tests_172 (a1 : Int32) (a2 : Int32) : Nat → Int32 → Int32 → zz_W → Option (Int32 × zz_W)
  | 0, _, _, _ => none
  | n + 1, l3, l4, w =>
    zbd (zldI w 1 1436 1) fun x43 =>
    if x43 ≤ l4 then
    (zbd (zboo l3) fun x45 =>
    some (x45, w))
    else
    (zbd2 (fX8_of l4 2 w) fun x46 w47 =>
    zbd (fX8_put l4 4 (1000 * x46) w47) fun w48 =>
    zbd (some (l4 + 1)) fun x49 =>
    fX8_tests_172 a1 a2 n l3 x49 w48)
noncomputable def fX8_tests_133 (a1 : Int32) (a2 : Int32) (k93 : Int32 → Int32 → Int32 → Int32 → zz_W → Option (Int32 × zz_W)) (l1 : Int32) (l2 : Int32) (l3 : Int32) (l4 : Int32) (s1 : Int32) (s2 : Int32) (s3 : Int32) (s5 : Int32) (w : zz_W) : Option (Int32 × zz_W) :=
    zbd2 (fX8_oddsToBeTold s5 l1 w) fun x50 w51 =>
    zbd (zdiv (s3 * x50) 100) fun x52 =>
    zbd (fX8_put s1 s2 x52 w51) fun w53 =>
    zbd (some (l4 + 1)) fun x54 =>
    k93 l1 l2 l3 x54 w53
noncomputable def fX8_tests_93 (a1 : Int32) (a2 : Int32) : Nat → Int32 → Int32 → Int32 → Int32 → zz_W → Option (Int32 × zz_W)
  | 0, _, _, _, _, _ => none
  | n + 1, l1, l2, l3, l4, w =>
    zbd (zldI w 1 1436 1) fun x55 =>
    if x55 ≤ l4 then
    (zbd2 (fX8_sumOf 4 w) fun x57 w58 =>
    if x57 = 0 then
    (zbd (zldI w58 1 1436 11) fun x61 =>
    zbd (zstI w58 1 1436 11 (x61 + 1)) fun w62 =>
    fX8_tests_172 a1 a2 zfuel l3 0 w62)
    else
    (zbd (zboo l3) fun x60 =>
    some (x60, w58)))
    else
    (zbd2 (fX8_of l4 4 w) fun x63 w64 =>
    zbd2 (fX8_doesTell l4 l1 l2 w64) fun x65 w66 =>
    if x65 = l3 then
    (fX8_tests_133 a1 a2 (fX8_tests_93 a1 a2 n) l1 l2 l3 l4 l4 4 x63 1 w66)
    else
    (fX8_tests_133 a1 a2 (fX8_tests_93 a1 a2 n) l1 l2 l3 l4 l4 4 x63 0 w66))
noncomputable def fX8_tests_88 (a1 : Int32) (a2 : Int32) (l1 : Int32) (l2 : Int32) (l3 : Int32) (s1 : Int32) (s2 : Int32) (s3 : Int32) (w : zz_W) : Option (Int32 × zz_W) :=
    zbd (zstI w 1 1436 s1 (s2 + s3)) fun w68 =>
    fX8_tests_93 a1 a2 zfuel l1 l2 l3 0 w68
noncomputable def fX8_tests_56 (a1 : Int32) (a2 : Int32) (l1 : Int32) (l2 : Int32) (l3 : Int32) (w : zz_W) : Option (Int32 × zz_W) :=
    zbd (zldI w 1 1436 8) fun x69 =>
    zbd (zstI w 1 1436 8 (x69 + 1)) fun w70 =>
    zbd (zldI w70 1 1436 10) fun x71 =>
    if l1 = 3 then
    (fX8_tests_88 a1 a2 l1 l2 l3 10 x71 9 w70)
    else
    (fX8_tests_88 a1 a2 l1 l2 l3 10 x71 (l1 + 1) w70)
noncomputable def fX8_tests_44 (a1 : Int32) (a2 : Int32) (l1 : Int32) (l2 : Int32) (s0 : Int32) (w : zz_W) : Option (Int32 × zz_W) :=
    zbd (zldI w 1 1436 9) fun x73 =>
    zbd (zstI w 1 1436 9 (x73 + 1)) fun w74 =>
    fX8_tests_56 a1 a2 l1 l2 s0 w74
noncomputable def fX8_tests (a1 : Int32) (a2 : Int32) (w : zz_W) : Option (Int32 × zz_W) :=
  zbd (zldI w 1 1436 12) fun x75 =>
    zbd2 (fX8_doesTell x75 a1 a2 w) fun x76 w77 =>
    if a1 = 3 then
    (fX8_tests_56 a1 a2 a1 a2 x76 w77)
    else
    (zbd2 (fX8_draw w77) fun x79 w80 =>
    zbd (zrem x79 100) fun x81 =>
    zbd (zldI w80 1 1436 3) fun x82 =>
    if x82 ≤ x81 then
    (fX8_tests_56 a1 a2 a1 a2 x76 w80)
    else
    (if x76 = 0 then
    (fX8_tests_44 a1 a2 a1 a2 1 w80)
    else
    (fX8_tests_44 a1 a2 a1 a2 0 w80)))
noncomputable def fX8_step_46 (w : zz_W) : Option (zz_W) :=
    zbd (zldI w 1 1436 2) fun x16 =>
    zbd (zstI w 1 1436 2 (x16 + 1)) fun w17 =>
    some w17
noncomputable def fX8_step (w : zz_W) : Option (zz_W) :=
  zbd (zldI w 1 1436 1) fun x18 =>
    if x18 ≤ 0 then
    (fX8_step_46 w)
    else
    (zbd (zldI w 1 1436 12) fun x20 =>
    if 0 ≤ x20 then
    (zbd2 (fX8_draw w) fun x22 w23 =>
    zbd (zrem x22 4) fun x24 =>
    zbd2 (fX8_draw w23) fun x25 w26 =>
    zbd (zrem x25 36) fun x27 =>
    zbd2 (fX8_tests x24 x27 w26) fun x28 w29 =>
    fX8_step_46 w29)
    else
    (zbd (fX8_builds w) fun w30 =>
    fX8_step_46 w30))
noncomputable def fX8_goesOn_2 (a1 : Int32) : Nat → Int32 → Int32 → zz_W → Option (zz_W)
  | 0, _, _, _ => none
  | n + 1, l1, l2, w =>
    if l1 ≤ l2 then
    (some w)
    else
    (zbd (fX8_step w) fun w5 =>
    zbd (some (l2 + 1)) fun x6 =>
    fX8_goesOn_2 a1 n l1 x6 w5)
noncomputable def fX8_goesOn (a1 : Int32) (w : zz_W) : Option (zz_W) :=
  fX8_goesOn_2 a1 zfuel a1 0 w
noncomputable def fX8_greatest_4 : Nat → Int32 → Int32 → zz_W → Option (Int32 × zz_W)
  | 0, _, _, _ => none
  | n + 1, l1, l2, w =>
    zbd (zldI w 1 1436 1) fun x13 =>
    if x13 ≤ l2 then
    (some (l1, w))
    else
    (if l1 < 0 then
    (zbd (some (l2 + 1)) fun x16 =>
    fX8_greatest_4 n l2 x16 w)
    else
    (zbd2 (fX8_of l2 4 w) fun x17 w18 =>
    zbd2 (fX8_of l1 4 w18) fun x19 w20 =>
    if x17 ≤ x19 then
    (zbd (some (l2 + 1)) fun x22 =>
    fX8_greatest_4 n l1 x22 w20)
    else
    (zbd (some (l2 + 1)) fun x23 =>
    fX8_greatest_4 n l2 x23 w20)))
noncomputable def fX8_greatest (w : zz_W) : Option (Int32 × zz_W) :=
  zbd (some (-1)) fun x24 =>
    fX8_greatest_4 zfuel x24 0 w
noncomputable def fX8_orNothing (a1 : Int32) (w : zz_W) : Option (Int32 × zz_W) :=
  if 0 ≤ a1 then
    (some (a1, w))
    else
    (some ((-1000000005), w))
noncomputable def fX8_putsBack_2 : Nat → Int32 → zz_W → Option (zz_W)
  | 0, _, _ => none
  | n + 1, l1, w =>
    if 64 ≤ l1 then
    (some w)
    else
    (zbd (zldI w 6 64 l1) fun x6 =>
    zbd (zstI w 1 1436 l1 x6) fun w7 =>
    zbd (some (l1 + 1)) fun x8 =>
    fX8_putsBack_2 n x8 w7)
noncomputable def fX8_putsBack (w : zz_W) : Option (zz_W) :=
  fX8_putsBack_2 zfuel 0 w
noncomputable def fX8_thinks_2 : Nat → Int32 → zz_W → Option (zz_W)
  | 0, _, _ => none
  | n + 1, l1, w =>
    if 64 ≤ l1 then
    (some w)
    else
    (zbd (zldI w 1 1436 l1) fun x6 =>
    zbd (zstI w 6 64 l1 x6) fun w7 =>
    zbd (some (l1 + 1)) fun x8 =>
    fX8_thinks_2 n x8 w7)
noncomputable def fX8_thinks (w : zz_W) : Option (zz_W) :=
  fX8_thinks_2 zfuel 0 w
noncomputable def fX8_behind_93 (a1 : Int32) (a2 : Int32) (s0 : Int32) (w : zz_W) : Option (Int32 × zz_W) :=
    zbd (fX8_putsBack w) fun w23 =>
    some (s0, w23)
noncomputable def fX8_behind_32 (a1 : Int32) (a2 : Int32) (l1 : Int32) (l2 : Int32) (w : zz_W) : Option (Int32 × zz_W) :=
    zbd (fX8_thinks w) fun w24 =>
    zbd (fX8_goesOn l1 w24) fun w25 =>
    if l2 = 0 then
    (zbd (zldI w25 1 1436 10) fun x36 =>
    fX8_behind_93 a1 a2 x36 w25)
    else
    (if l2 = 1 then
    (zbd (zldI w25 1 1436 9) fun x35 =>
    fX8_behind_93 a1 a2 x35 w25)
    else
    (if l2 = 2 then
    (zbd2 (fX8_greatest w25) fun x31 w32 =>
    zbd2 (fX8_orNothing x31 w32) fun x33 w34 =>
    fX8_behind_93 a1 a2 x33 w34)
    else
    (zbd2 (fX8_of (l2 - 3) 4 w25) fun x29 w30 =>
    fX8_behind_93 a1 a2 x29 w30)))
noncomputable def fX8_behind (a1 : Int32) (a2 : Int32) (w : zz_W) : Option (Int32 × zz_W) :=
  zbd2 (fX8_in a1 0 100 w) fun x37 w38 =>
    if x37 = 0 then
    (some ((-1000000001), w38))
    else
    (if a2 < 0 then
    (some ((-1000000001), w38))
    else
    (if a2 ≤ 2 then
    (fX8_behind_32 a1 a2 a1 a2 w38)
    else
    (zbd2 (fX8_isRun (a2 - 3) w38) fun x42 w43 =>
    if x42 = 0 then
    (some ((-1000000001), w43))
    else
    (fX8_behind_32 a1 a2 a1 a2 w43))))
noncomputable def fX8_build (w : zz_W) : Option (Int32 × zz_W) :=
  zbd (zldI w 1 1436 1) fun x5 =>
    if x5 = 0 then
    (some ((-1000000002), w))
    else
    (zbd (fX8_builds w) fun w7 =>
    zbd (zldI w7 1 1436 1) fun x8 =>
    some (x8, w7))
noncomputable def fX8_isCell (a1 : Int32) (w : zz_W) : Option (Int32 × zz_W) :=
  zbd2 (fX8_in a1 0 35 w) fun x4 w5 =>
    zbd (zboo x4) fun x6 =>
    some (x6, w5)
noncomputable def fX8_chance_27 (a1 : Int32) : Nat → Int32 → Int64 → Int32 → zz_W → Option (Int32 × zz_W)
  | 0, _, _, _, _ => none
  | n + 1, l1, l2, l4, w =>
    zbd (zldI w 1 1436 1) fun x20 =>
    if x20 ≤ l4 then
    (zbd2 (fX8_sumOf 4 w) fun x22 w23 =>
    zbd (zldiv (1000 * l2) (Int32.toInt64 x22)) fun x24 =>
    some (Int64.toInt32 x24, w23))
    else
    (zbd2 (fX8_doesPass l4 l1 w) fun x25 w26 =>
    if x25 = 0 then
    (zbd (some (l2 + 0)) fun x28 =>
    zbd (some (l4 + 1)) fun x29 =>
    fX8_chance_27 a1 n l1 x28 x29 w26)
    else
    (zbd2 (fX8_of l4 4 w26) fun x30 w31 =>
    zbd (some (l2 + (Int32.toInt64 x30))) fun x32 =>
    zbd (some (l4 + 1)) fun x33 =>
    fX8_chance_27 a1 n l1 x32 x33 w31))
noncomputable def fX8_chance (a1 : Int32) (w : zz_W) : Option (Int32 × zz_W) :=
  zbd2 (fX8_isCell a1 w) fun x34 w35 =>
    if x34 = 0 then
    (some ((-1000000001), w35))
    else
    (zbd (zldI w35 1 1436 1) fun x37 =>
    if x37 = 0 then
    (some ((-1000000005), w35))
    else
    (fX8_chance_27 a1 zfuel a1 0 0 w35))
noncomputable def fX8_check_180 (a1 : Int32) (l2 : Int32) (l3 : Int32) (l4 : Int32) (w : zz_W) : Option (Int32 × zz_W) :=
    zbd (fX8_copyAll 3 1 w) fun w39 =>
    if l4 = l2 then
    (if l4 = l3 then
    (some (0, w39))
    else
    (some (1 + l4, w39)))
    else
    (some (1 + l4, w39))
noncomputable def fX8_check_130 (a1 : Int32) (k79 : Int32 → Int32 → Int32 → Int32 → zz_W → Option (Int32 × zz_W)) (l2 : Int32) (l3 : Int32) (l5 : Int32) (s0 : Int32) (s1 : Int32) (w : zz_W) : Option (Int32 × zz_W) :=
    zbd (some (s0 + s1)) fun x42 =>
    if x42 = ((2 * l5) + 1) then
    (if l2 ≤ x42 then
    (zbd (some (x42 + 0)) fun x47 =>
    zbd (some (l5 + 1)) fun x48 =>
    k79 l2 l3 x47 x48 w)
    else
    (zbd (zldI w 23 60 x42) fun x49 =>
    zbd2 (fX8_greatest w) fun x50 w51 =>
    if x49 = x50 then
    (zbd (some (x42 + 1)) fun x55 =>
    zbd (some (l5 + 1)) fun x56 =>
    k79 l2 l3 x55 x56 w51)
    else
    (zbd (some (x42 + 0)) fun x53 =>
    zbd (some (l5 + 1)) fun x54 =>
    k79 l2 l3 x53 x54 w51)))
    else
    (zbd (some (x42 + 0)) fun x44 =>
    zbd (some (l5 + 1)) fun x45 =>
    k79 l2 l3 x44 x45 w)
noncomputable def fX8_check_129 (a1 : Int32) (k79 : Int32 → Int32 → Int32 → Int32 → zz_W → Option (Int32 × zz_W)) (l2 : Int32) (l3 : Int32) (l5 : Int32) (s0 : Int32) (w : zz_W) : Option (Int32 × zz_W) :=
    fX8_check_130 a1 k79 l2 l3 l5 s0 0 w
noncomputable def fX8_check_79 (a1 : Int32) : Nat → Int32 → Int32 → Int32 → Int32 → zz_W → Option (Int32 × zz_W)
  | 0, _, _, _, _, _ => none
  | n + 1, l2, l3, l4, l5, w =>
    if l3 ≤ (2 * l5) then
    (fX8_check_180 a1 l2 l3 l4 w)
    else
    (if l4 = (2 * l5) then
    (zbd (fX8_step w) fun w59 =>
    if l2 ≤ l4 then
    (fX8_check_129 a1 (fX8_check_79 a1 n) l2 l3 l5 l4 w59)
    else
    (zbd (zldI w59 23 60 l4) fun x61 =>
    zbd (zldI w59 1 1436 10) fun x62 =>
    if x61 = x62 then
    (fX8_check_130 a1 (fX8_check_79 a1 n) l2 l3 l5 l4 1 w59)
    else
    (fX8_check_129 a1 (fX8_check_79 a1 n) l2 l3 l5 l4 w59)))
    else
    (fX8_check_180 a1 l2 l3 l4 w))
noncomputable def fX8_check (a1 : Int32) (w : zz_W) : Option (Int32 × zz_W) :=
  zbd (some (zgI w 0 34)) fun x64 =>
    zbd (some (zsI w 0 34 0)) fun w65 =>
    zbd2 (fX8_in a1 1 30 w65) fun x66 w67 =>
    if x66 = 0 then
    (some ((-1000000001), w67))
    else
    (zbd (some (zgI w67 0 3)) fun x69 =>
    if x69 = 0 then
    (some ((-1000000002), w67))
    else
    (zbd (fX8_copyAll 1 3 w67) fun w71 =>
    zbd (fX8_copyAll 2 1 w71) fun w72 =>
    zbd (zldI w72 1 1436 2) fun x73 =>
    zbd2 (fX8_within (9999 - x73) 0 a1 w72) fun x74 w75 =>
    zbd (some (2 * x74)) fun x76 =>
    fX8_check_79 a1 zfuel x64 x76 0 0 w75))
noncomputable def fX8_comes (a1 : Int32) (a2 : Int32) (a3 : Int32) (a4 : Int32) (w : zz_W) : Option (Int32 × zz_W) :=
  zbd (zldI w 1 1436 1) fun x9 =>
    zbd (zldI w 1 1436 1) fun x10 =>
    zbd (zstI w 1 1436 1 (x10 + 1)) fun w11 =>
    zbd (fX8_put x9 0 a1 w11) fun w12 =>
    zbd (fX8_put x9 1 a2 w12) fun w13 =>
    zbd (fX8_put x9 2 a3 w13) fun w14 =>
    zbd (fX8_put x9 3 a4 w14) fun w15 =>
    zbd (fX8_put x9 4 (1000 * a3) w15) fun w16 =>
    some (x9, w16)
noncomputable def fX8_isSheet (a1 : Int32) (w : zz_W) : Option (Int32 × zz_W) :=
  zbd2 (fX8_in a1 0 3 w) fun x4 w5 =>
    zbd (zboo x4) fun x6 =>
    some (x6, w5)
noncomputable def fX8_copy_141 (a1 : Int32) (a2 : Int32) (a3 : Int32) (a4 : Int32) (a5 : Int32) : Nat → Int32 → Int32 → Int32 → Int32 → zz_W → Option (Int32 × zz_W)
  | 0, _, _, _, _, _ => none
  | n + 1, l3, l4, l5, l6, w =>
    if l5 ≤ l6 then
    (some (l5, w))
    else
    (zbd (zldI w 22 24 l6) fun x30 =>
    zbd (zstI w 17 96 (((24 * l3) + l4) + l6) x30) fun w31 =>
    zbd (some (l6 + 1)) fun x32 =>
    fX8_copy_141 a1 a2 a3 a4 a5 n l3 l4 l5 x32 w31)
noncomputable def fX8_copy_104 (a1 : Int32) (a2 : Int32) (a3 : Int32) (a4 : Int32) (a5 : Int32) : Nat → Int32 → Int32 → Int32 → Int32 → Int32 → Int32 → zz_W → Option (Int32 × zz_W)
  | 0, _, _, _, _, _, _, _ => none
  | n + 1, l1, l2, l3, l4, l5, l6, w =>
    if l5 ≤ l6 then
    (fX8_copy_141 a1 a2 a3 a4 a5 zfuel l3 l4 l5 0 w)
    else
    (zbd (zldI w 17 96 (((24 * l1) + l2) + l6)) fun x34 =>
    zbd (zstI w 22 24 l6 x34) fun w35 =>
    zbd (some (l6 + 1)) fun x36 =>
    fX8_copy_104 a1 a2 a3 a4 a5 n l1 l2 l3 l4 l5 x36 w35)
noncomputable def fX8_copy (a1 : Int32) (a2 : Int32) (a3 : Int32) (a4 : Int32) (a5 : Int32) (w : zz_W) : Option (Int32 × zz_W) :=
  zbd2 (fX8_isSheet a1 w) fun x37 w38 =>
    if x37 = 0 then
    (some ((-1000000001), w38))
    else
    (zbd2 (fX8_isSheet a3 w38) fun x40 w41 =>
    if x40 = 0 then
    (some ((-1000000001), w41))
    else
    (zbd (zldI w41 15 4 a1) fun x43 =>
    if x43 < 0 then
    (some ((-1000000011), w41))
    else
    (zbd (zldI w41 15 4 a3) fun x45 =>
    if 0 ≤ x45 then
    (zbd (zldI w41 15 4 a1) fun x47 =>
    zbd (zldI w41 15 4 a3) fun x48 =>
    if x47 = x48 then
    (if a2 < 0 then
    (some ((-1000000013), w41))
    else
    (if a4 < 0 then
    (some ((-1000000013), w41))
    else
    (if a5 < 0 then
    (some ((-1000000013), w41))
    else
    (zbd (zldI w41 16 4 a1) fun x53 =>
    if (x53 - a5) < a2 then
    (some ((-1000000013), w41))
    else
    (zbd (zldI w41 16 4 a3) fun x55 =>
    if a4 ≤ (x55 - a5) then
    (fX8_copy_104 a1 a2 a3 a4 a5 zfuel a1 a2 a3 a4 a5 0 w41)
    else
    (some ((-1000000013), w41)))))))
    else
    (some ((-1000000012), w41)))
    else
    (some ((-1000000011), w41)))))
noncomputable def fX8_count (a1 : Int32) (w : zz_W) : Option (Int32 × zz_W) :=
  if a1 = 0 then
    (zbd (zldI w 1 1436 1) fun x17 =>
    some (x17, w))
    else if a1 = 1 then
    (zbd (zldI w 1 1436 2) fun x19 =>
    some (x19, w))
    else if a1 = 2 then
    (zbd (zldI w 1 1436 3) fun x21 =>
    some (x21, w))
    else if a1 = 3 then
    (zbd (zldI w 1 1436 4) fun x23 =>
    some (x23, w))
    else if a1 = 4 then
    (zbd (zldI w 1 1436 13) fun x25 =>
    some (x25, w))
    else if a1 = 5 then
    (zbd (some (zgI w 0 34)) fun x27 =>
    some (x27, w))
    else if a1 = 6 then
    (zbd (some (zgI w 0 8)) fun x29 =>
    some (x29, w))
    else if a1 = 7 then
    (zbd (zldI w 1 1436 0) fun x31 =>
    some (x31, w))
    else 
    (some ((-1000000001), w))
noncomputable def fX8_counts_10 (a1 : Int32) : Nat → Int32 → Int32 → zz_W → Option (Int32 × zz_W)
  | 0, _, _, _ => none
  | n + 1, l1, l2, w =>
    if l2 < 0 then
    (some ((-1), w))
    else
    (zbd (zldI w 1 1436 (64 + (2 * l2))) fun x9 =>
    zbd (zdiv x9 1000) fun x10 =>
    if x10 = l1 then
    (some (l2, w))
    else
    (zbd (some (l2 + (-1))) fun x12 =>
    fX8_counts_10 a1 n l1 x12 w))
noncomputable def fX8_counts (a1 : Int32) (w : zz_W) : Option (Int32 × zz_W) :=
  zbd (zldI w 1 1436 13) fun x13 =>
    zbd (some (x13 - 1)) fun x14 =>
    fX8_counts_10 a1 zfuel a1 x14 w
noncomputable def fX8_deal_15 (a1 : Int32) : Nat → Int32 → Int32 → zz_W → Option (Int32 × zz_W)
  | 0, _, _, _ => none
  | n + 1, l1, l2, w =>
    if l1 ≤ l2 then
    (some (l2, w))
    else
    (zbd (zldI w 1 1436 1) fun x24 =>
    if 10 ≤ x24 then
    (some (l2, w))
    else
    (zbd2 (fX8_draw w) fun x26 w27 =>
    zbd (zrem x26 6) fun x28 =>
    zbd2 (fX8_draw w27) fun x29 w30 =>
    zbd (zrem x29 36) fun x31 =>
    zbd2 (fX8_draw w30) fun x32 w33 =>
    zbd (zrem x32 40) fun x34 =>
    zbd (some (1 + x34)) fun x35 =>
    zbd2 (fX8_draw w33) fun x36 w37 =>
    zbd (zrem x36 9) fun x38 =>
    zbd2 (fX8_comes x28 x31 x35 (1 + x38) w37) fun x39 w40 =>
    zbd (some (l2 + 1)) fun x41 =>
    fX8_deal_15 a1 n l1 x41 w40))
noncomputable def fX8_deal (a1 : Int32) (w : zz_W) : Option (Int32 × zz_W) :=
  zbd2 (fX8_in a1 1 10 w) fun x42 w43 =>
    if x42 = 0 then
    (some ((-1000000001), w43))
    else
    (fX8_deal_15 a1 zfuel a1 0 w43)
noncomputable def fX8_two (a1 : Int32) (a2 : Int32) (a3 : Int32) (w : zz_W) : Option (Int32 × zz_W) :=
  if a1 = (-8) then
    (some (a2 * a3, w))
    else if a1 = (-7) then
    (some (a2 - a3, w))
    else if a1 = (-6) then
    (some (a2 + a3, w))
    else if a1 = (-5) then
    (if a2 ≤ a3 then
    (some (0, w))
    else
    (some (1, w)))
    else if a1 = (-4) then
    (if a2 = a3 then
    (some (1, w))
    else
    (some (0, w)))
    else if a1 = (-3) then
    (if a3 ≤ a2 then
    (some (0, w))
    else
    (some (1, w)))
    else if a1 = (-2) then
    (if a2 = 0 then
    (some (0, w))
    else
    (if a3 = 0 then
    (some (0, w))
    else
    (some (1, w))))
    else if a1 = (-1) then
    (if a2 = 0 then
    (if a3 = 0 then
    (some (0, w))
    else
    (some (1, w)))
    else
    (some (1, w)))
    else 
    (if a3 = 0 then
    (some (0, w))
    else
    (zbd (zdiv a2 a3) fun x34 =>
    some (x34, w)))
noncomputable def fX8_worksOut_115 (a1 : Int32) (k21 : Int32 → Int32 → Int32 → Int32 → zz_W → Option (Int32 × zz_W)) (l1 : Int32) (l2 : Int32) (l3 : Int32) (l4 : Int32) (s1 : Int32) (s2 : Int32) (w : zz_W) : Option (Int32 × zz_W) :=
    zbd (zstI w 13 96 s1 s2) fun w24 =>
    zbd (some (l4 + 1)) fun x25 =>
    k21 l1 l2 l3 x25 w24
noncomputable def fX8_worksOut_78 (a1 : Int32) (k21 : Int32 → Int32 → Int32 → Int32 → zz_W → Option (Int32 × zz_W)) (l1 : Int32) (l2 : Int32) (l3 : Int32) (l4 : Int32) (s1 : Int32) (s2 : Int32) (w : zz_W) : Option (Int32 × zz_W) :=
    zbd (zstI w 13 96 s1 s2) fun w26 =>
    zbd (some (l2 + 1)) fun x27 =>
    zbd (some (l4 + 1)) fun x28 =>
    k21 l1 x27 l3 x28 w26
noncomputable def fX8_worksOut_21 (a1 : Int32) : Nat → Int32 → Int32 → Int32 → Int32 → zz_W → Option (Int32 × zz_W)
  | 0, _, _, _, _, _ => none
  | n + 1, l1, l2, l3, l4, w =>
    if l3 ≤ l4 then
    (zbd (zldI w 13 96 0) fun x30 =>
    some (x30, w))
    else
    (zbd (zldI w 1 1436 ((92 + (96 * l1)) + l4)) fun x31 =>
    if x31 < 0 then
    (if x31 = (-10) then
    (zbd (zldI w 13 96 (l2 - 1)) fun x41 =>
    if x41 = 0 then
    (fX8_worksOut_115 a1 (fX8_worksOut_21 a1 n) l1 l2 l3 l4 (l2 - 1) 1 w)
    else
    (fX8_worksOut_115 a1 (fX8_worksOut_21 a1 n) l1 l2 l3 l4 (l2 - 1) 0 w))
    else
    (zbd (some (l2 + (-1))) fun x34 =>
    zbd (zldI w 13 96 (x34 - 1)) fun x35 =>
    zbd (zldI w 13 96 x34) fun x36 =>
    zbd2 (fX8_two x31 x35 x36 w) fun x37 w38 =>
    zbd (zstI w38 13 96 (x34 - 1) x37) fun w39 =>
    zbd (some (l4 + 1)) fun x40 =>
    fX8_worksOut_21 a1 n l1 x34 l3 x40 w39))
    else
    (if 10000 ≤ x31 then
    (zbd (zldI w 14 4 (x31 - 10000)) fun x44 =>
    fX8_worksOut_78 a1 (fX8_worksOut_21 a1 n) l1 l2 l3 l4 l2 x44 w)
    else
    (fX8_worksOut_78 a1 (fX8_worksOut_21 a1 n) l1 l2 l3 l4 l2 x31 w)))
noncomputable def fX8_worksOut (a1 : Int32) (w : zz_W) : Option (Int32 × zz_W) :=
  zbd (zldI w 1 1436 (64 + (2 * a1))) fun x45 =>
    zbd (zrem x45 1000) fun x46 =>
    fX8_worksOut_21 a1 zfuel a1 0 x46 0 w
noncomputable def fX8_hurtBy_66 (a1 : Int32) (l1 : Int32) (s0 : Int32) (w : zz_W) : Option (Int32 × zz_W) :=
    zbd2 (fX8_of l1 0 w) fun x25 w26 =>
    if x25 = 1 then
    (some (2 * s0, w26))
    else if x25 = 2 then
    (some (s0 + 9, w26))
    else if x25 = 3 then
    (some ((2 * s0) + 1, w26))
    else if x25 = 4 then
    (some (s0 + 7, w26))
    else if x25 = 5 then
    (some (1, w26))
    else 
    (some (s0, w26))
noncomputable def fX8_hurtBy (a1 : Int32) (w : zz_W) : Option (Int32 × zz_W) :=
  zbd2 (fX8_counts 0 w) fun x32 w33 =>
    zbd2 (fX8_of a1 3 w33) fun x34 w35 =>
    zbd (zstI w35 14 4 0 x34) fun w36 =>
    zbd (zldI w36 1 1436 4) fun x37 =>
    zbd (zstI w36 14 4 1 x37) fun w38 =>
    zbd2 (fX8_of a1 2 w38) fun x39 w40 =>
    zbd (zstI w40 14 4 2 x39) fun w41 =>
    if 0 ≤ x32 then
    (zbd2 (fX8_worksOut x32 w41) fun x43 w44 =>
    zbd2 (fX8_within x43 0 99 w44) fun x45 w46 =>
    fX8_hurtBy_66 a1 a1 x45 w46)
    else
    (zbd2 (fX8_of a1 3 w41) fun x47 w48 =>
    fX8_hurtBy_66 a1 a1 x47 w48)
noncomputable def fX8_drill (a1 : Int32) (a2 : Int32) (w : zz_W) : Option (Int32 × zz_W) :=
  zbd2 (fX8_isCell a1 w) fun x23 w24 =>
    if x23 = 0 then
    (some ((-1000000001), w24))
    else
    (zbd2 (fX8_in a2 1 9 w24) fun x26 w27 =>
    if x26 = 0 then
    (some ((-1000000001), w27))
    else
    (zbd (zldI w27 1 1436 12) fun x29 =>
    if 0 ≤ x29 then
    (zbd (zldI w27 1 1436 7) fun x31 =>
    zbd (zstI w27 1 1436 7 (x31 + 1)) fun w32 =>
    zbd2 (fX8_doesPass x29 a1 w32) fun x33 w34 =>
    if x33 = 0 then
    (some (0, w34))
    else
    (zbd2 (fX8_of x29 3 w34) fun x36 w37 =>
    if x36 ≤ a2 then
    (zbd2 (fX8_hurtBy x29 w37) fun x39 w40 =>
    zbd (zldI w40 1 1436 6) fun x41 =>
    zbd (zstI w40 1 1436 6 (x41 + 1)) fun w42 =>
    zbd (zldI w42 1 1436 5) fun x43 =>
    zbd (zstI w42 1 1436 5 (x43 + x39)) fun w44 =>
    some (x39, w44))
    else
    (some (0, w37))))
    else
    (some ((-1000000002), w27))))
noncomputable def fX8_fee (w : zz_W) : Option (Int32 × zz_W) :=
  zbd2 (fX8_counts 1 w) fun x11 w12 =>
    zbd (zldI w12 1 1436 5) fun x13 =>
    zbd (zstI w12 14 4 0 x13) fun w14 =>
    zbd (zldI w14 1 1436 8) fun x15 =>
    zbd (zstI w14 14 4 1 x15) fun w16 =>
    if 0 ≤ x11 then
    (zbd2 (fX8_worksOut x11 w16) fun x18 w19 =>
    some (x18, w19))
    else
    (zbd (zldI w16 1 1436 5) fun x20 =>
    some (x20, w16))
noncomputable def fX8_feed_47 (a1 : Int32) (a2 : Int32) (a3 : Int32) (k18 : Int32 → Int32 → Int32 → Int32 → zz_W → Option (Int32 × zz_W)) (l1 : Int32) (l2 : Int32) (l3 : Int32) (l4 : Int32) (s0 : Int32) (w : zz_W) : Option (Int32 × zz_W) :=
    zbd (some (zgI w 0 8)) fun x13 =>
    zbd (zrem l4 4) fun x14 =>
    zbd (zstI w 7 96 (x13 + l4) ((s0 >>> ((24 - (8 * x14)) &&& 31)) &&& 255)) fun w15 =>
    zbd (some (l4 + 1)) fun x16 =>
    k18 l1 l2 l3 x16 w15
noncomputable def fX8_feed_18 (a1 : Int32) (a2 : Int32) (a3 : Int32) : Nat → Int32 → Int32 → Int32 → Int32 → zz_W → Option (Int32 × zz_W)
  | 0, _, _, _, _, _ => none
  | n + 1, l1, l2, l3, l4, w =>
    if 12 ≤ l4 then
    (zbd (some (zgI w 0 8)) fun x18 =>
    zbd (some (zsI w 0 8 (x18 + 12))) fun w19 =>
    zbd (some (zgI w19 0 8)) fun x20 =>
    some (x20, w19))
    else
    (if 4 ≤ l4 then
    (if 8 ≤ l4 then
    (fX8_feed_47 a1 a2 a3 (fX8_feed_18 a1 a2 a3 n) l1 l2 l3 l4 l3 w)
    else
    (fX8_feed_47 a1 a2 a3 (fX8_feed_18 a1 a2 a3 n) l1 l2 l3 l4 l2 w))
    else
    (fX8_feed_47 a1 a2 a3 (fX8_feed_18 a1 a2 a3 n) l1 l2 l3 l4 l1 w))
noncomputable def fX8_feed (a1 : Int32) (a2 : Int32) (a3 : Int32) (w : zz_W) : Option (Int32 × zz_W) :=
  zbd (some (zgI w 0 8)) fun x23 =>
    if (x23 + 12) ≤ 96 then
    (fX8_feed_18 a1 a2 a3 zfuel a1 a2 a3 0 w)
    else
    (some ((-1000000003), w))
noncomputable def fX8_fine (a1 : Int32) (w : zz_W) : Option (Int32 × zz_W) :=
  zbd2 (fX8_isRun a1 w) fun x17 w18 =>
    if x17 = 0 then
    (some ((-1000000001), w18))
    else
    (zbd2 (fX8_counts 2 w18) fun x20 w21 =>
    zbd2 (fX8_of a1 4 w21) fun x22 w23 =>
    zbd (zstI w23 14 4 0 x22) fun w24 =>
    zbd2 (fX8_of a1 3 w24) fun x25 w26 =>
    zbd (zstI w26 14 4 1 x25) fun w27 =>
    if 0 ≤ x20 then
    (zbd2 (fX8_worksOut x20 w27) fun x29 w30 =>
    some (x29, w30))
    else
    (zbd2 (fX8_of a1 4 w27) fun x31 w32 =>
    some (x31, w32)))
noncomputable def fX8_fitsOf_5 (a1 : Int32) (a2 : Int32) : Nat → Int32 → Int32 → Int32 → Int32 → zz_W → Option (Int32 × zz_W)
  | 0, _, _, _, _, _ => none
  | n + 1, l1, l2, l3, l4, w =>
    zbd (zldI w 16 4 l1) fun x16 =>
    if x16 ≤ l4 then
    (some (l3, w))
    else
    (zbd (zldI w 17 96 ((24 * l1) + l4)) fun x18 =>
    zbd2 (fX8_isCell x18 w) fun x19 w20 =>
    if x19 = 0 then
    (zbd (some (l3 + 0)) fun x22 =>
    zbd (some (l4 + 1)) fun x23 =>
    fX8_fitsOf_5 a1 a2 n l1 l2 x22 x23 w20)
    else
    (zbd2 (fX8_doesPass l2 x18 w20) fun x24 w25 =>
    if x24 = 0 then
    (zbd (some (l3 + 0)) fun x27 =>
    zbd (some (l4 + 1)) fun x28 =>
    fX8_fitsOf_5 a1 a2 n l1 l2 x27 x28 w25)
    else
    (zbd (some (l3 + 1)) fun x29 =>
    zbd (some (l4 + 1)) fun x30 =>
    fX8_fitsOf_5 a1 a2 n l1 l2 x29 x30 w25)))
noncomputable def fX8_fitsOf (a1 : Int32) (a2 : Int32) (w : zz_W) : Option (Int32 × zz_W) :=
  fX8_fitsOf_5 a1 a2 zfuel a1 a2 0 0 w
noncomputable def fX8_fits_36 (a1 : Int32) (a2 : Int32) : Nat → Int32 → Int32 → Int32 → Int32 → zz_W → Option (Int32 × zz_W)
  | 0, _, _, _, _, _ => none
  | n + 1, l1, l2, l3, l4, w =>
    zbd (zldI w 1 1436 1) fun x23 =>
    if x23 ≤ l4 then
    (zbd (zldI w 1 1436 1) fun x25 =>
    if x25 = 0 then
    (some ((-1000000005), w))
    else
    (if l2 = 0 then
    (some (l3, w))
    else
    (zbd2 (fX8_fitsOf l1 l3 w) fun x28 w29 =>
    some (x28, w29))))
    else
    (zbd2 (fX8_fitsOf l1 l4 w) fun x30 w31 =>
    zbd2 (fX8_fitsOf l1 l3 w31) fun x32 w33 =>
    if x30 ≤ x32 then
    (zbd (some (l4 + 1)) fun x35 =>
    fX8_fits_36 a1 a2 n l1 l2 l3 x35 w33)
    else
    (zbd (some (l4 + 1)) fun x36 =>
    fX8_fits_36 a1 a2 n l1 l2 l4 x36 w33))
noncomputable def fX8_fits (a1 : Int32) (a2 : Int32) (w : zz_W) : Option (Int32 × zz_W) :=
  zbd2 (fX8_isSheet a1 w) fun x37 w38 =>
    if x37 = 0 then
    (some ((-1000000001), w38))
    else
    (zbd2 (fX8_in a2 0 1 w38) fun x40 w41 =>
    if x40 = 0 then
    (some ((-1000000001), w41))
    else
    (zbd (zldI w41 15 4 a1) fun x43 =>
    if 0 ≤ x43 then
    (fX8_fits_36 a1 a2 zfuel a1 a2 0 1 w41)
    else
    (some ((-1000000011), w41))))
noncomputable def fX8_isFigure (a1 : Int32) (w : zz_W) : Option (Int32 × zz_W) :=
  zbd (some (zgI w 0 8)) fun x7 =>
    if x7 ≤ a1 then
    (some (0, w))
    else
    (zbd (zldI w 7 96 a1) fun x9 =>
    if x9 < 48 then
    (some (0, w))
    else
    (zbd (zldI w 7 96 a1) fun x11 =>
    if 57 < x11 then
    (some (0, w))
    else
    (some (1, w))))
noncomputable def fX8_isLetter (a1 : Int32) (w : zz_W) : Option (Int32 × zz_W) :=
  zbd (some (zgI w 0 8)) fun x7 =>
    if x7 ≤ a1 then
    (some (0, w))
    else
    (zbd (zldI w 7 96 a1) fun x9 =>
    if x9 < 97 then
    (some (0, w))
    else
    (zbd (zldI w 7 96 a1) fun x11 =>
    if 122 < x11 then
    (some (0, w))
    else
    (some (1, w))))
noncomputable def fX8_go_261 (s1 : Int32) (w : zz_W) : Option (zz_W) :=
    zbd (some (zsI w 0 11 s1)) fun w67 =>
    zbd (some (zgI w67 0 9)) fun x68 =>
    zbd (some (zsI w67 0 13 x68)) fun w69 =>
    some w69
noncomputable def fX8_go_256 (w : zz_W) : Option (zz_W) :=
    fX8_go_261 4 w
noncomputable def fX8_go_222 (k170 : Int32 → zz_W → Option (zz_W)) (l1 : Int32) (s1 : Int32) (w : zz_W) : Option (zz_W) :=
    zbd (some (zsI w 0 12 s1)) fun w70 =>
    zbd (some (zgI w70 0 9)) fun x71 =>
    zbd (some (zsI w70 0 9 (x71 + 1))) fun w72 =>
    k170 l1 w72
noncomputable def fX8_go_170 : Nat → Int32 → zz_W → Option (zz_W)
  | 0, _, _ => none
  | n + 1, l1, w =>
    zbd (some (zgI w 0 9)) fun x73 =>
    zbd2 (fX8_isFigure x73 w) fun x74 w75 =>
    if x74 = 0 then
    (if l1 = 0 then
    (zbd (some (zgI w75 0 9)) fun x78 =>
    zbd (some (zgI w75 0 10)) fun x79 =>
    if (x78 - x79) ≤ 4 then
    (fX8_go_261 2 w75)
    else
    (fX8_go_256 w75))
    else
    (fX8_go_256 w75))
    else
    (zbd (some (zgI w75 0 9)) fun x81 =>
    zbd (some (zgI w75 0 10)) fun x82 =>
    if 4 ≤ (x81 - x82) then
    (zbd (some (zgI w75 0 12)) fun x84 =>
    fX8_go_222 (fX8_go_170 n) l1 x84 w75)
    else
    (zbd (some (zgI w75 0 12)) fun x85 =>
    zbd (some (zgI w75 0 9)) fun x86 =>
    zbd (zldI w75 7 96 x86) fun x87 =>
    fX8_go_222 (fX8_go_170 n) l1 (((10 * x85) + x87) - 48) w75))
noncomputable def fX8_go_127 (s1 : Int32) (w : zz_W) : Option (zz_W) :=
    zbd (some (zsI w 0 11 s1)) fun w88 =>
    zbd (some (zgI w88 0 10)) fun x89 =>
    zbd (zldI w88 7 96 x89) fun x90 =>
    zbd (some (zsI w88 0 12 x90)) fun w91 =>
    zbd (some (zgI w91 0 9)) fun x92 =>
    zbd (some (zsI w91 0 13 x92)) fun w93 =>
    some w93
noncomputable def fX8_go_93 : Nat → Int32 → zz_W → Option (zz_W)
  | 0, _, _ => none
  | n + 1, l1, w =>
    zbd (some (zgI w 0 9)) fun x94 =>
    zbd2 (fX8_isLetter x94 w) fun x95 w96 =>
    if x95 = 0 then
    (if l1 = 0 then
    (fX8_go_127 1 w96)
    else
    (fX8_go_127 4 w96))
    else
    (zbd (some (zgI w96 0 9)) fun x99 =>
    zbd (some (zsI w96 0 9 (x99 + 1))) fun w100 =>
    fX8_go_93 n l1 w100)
noncomputable def fX8_go_62 (s0 : Int32) (w : zz_W) : Option (zz_W) :=
    zbd (some (zgI w 0 10)) fun x101 =>
    zbd (some (zgI w 0 8)) fun x102 =>
    if x101 = x102 then
    (zbd (some (zsI w 0 11 0)) fun w119 =>
    some w119)
    else
    (zbd (some (zgI w 0 10)) fun x104 =>
    zbd2 (fX8_isLetter x104 w) fun x105 w106 =>
    if x105 = 0 then
    (zbd (some (zgI w106 0 10)) fun x108 =>
    zbd2 (fX8_isFigure x108 w106) fun x109 w110 =>
    if x109 = 0 then
    (zbd (some (zsI w110 0 11 3)) fun w112 =>
    zbd (some (zgI w112 0 10)) fun x113 =>
    zbd (zldI w112 7 96 x113) fun x114 =>
    zbd (some (zsI w112 0 12 x114)) fun w115 =>
    zbd (some (zgI w115 0 9)) fun x116 =>
    zbd (some (zsI w115 0 9 (x116 + 1))) fun w117 =>
    some w117)
    else
    (zbd (some (zsI w110 0 12 0)) fun w118 =>
    fX8_go_170 zfuel s0 w118))
    else
    (fX8_go_93 zfuel s0 w106))
noncomputable def fX8_go_38 (w : zz_W) : Option (zz_W) :=
    zbd (some (zgI w 0 9)) fun x120 =>
    zbd (some (zsI w 0 10 x120)) fun w121 =>
    zbd (some (zgI w121 0 10)) fun x122 =>
    zbd (some (zgI w121 0 13)) fun x123 =>
    if x122 = x123 then
    (fX8_go_62 1 w121)
    else
    (fX8_go_62 0 w121)
noncomputable def fX8_go_0 : Nat → zz_W → Option (zz_W)
  | 0, _ => none
  | n + 1, w =>
    zbd (some (zgI w 0 9)) fun x125 =>
    zbd (some (zgI w 0 8)) fun x126 =>
    if x126 ≤ x125 then
    (fX8_go_38 w)
    else
    (zbd (some (zgI w 0 9)) fun x128 =>
    zbd (zldI w 7 96 x128) fun x129 =>
    if x129 = 32 then
    (zbd (some (zgI w 0 9)) fun x131 =>
    zbd (some (zsI w 0 9 (x131 + 1))) fun w132 =>
    fX8_go_0 n w132)
    else
    (fX8_go_38 w))
noncomputable def fX8_go (w : zz_W) : Option (zz_W) :=
  zbd (some (zgI w 0 9)) fun x133 =>
    zbd (some (zgI w 0 8)) fun x134 =>
    if x134 ≤ x133 then
    (fX8_go_38 w)
    else
    (zbd (some (zgI w 0 9)) fun x136 =>
    zbd (zldI w 7 96 x136) fun x137 =>
    if x137 = 32 then
    (zbd (some (zgI w 0 9)) fun x139 =>
    zbd (some (zsI w 0 9 (x139 + 1))) fun w140 =>
    fX8_go_0 zfuel w140)
    else
    (fX8_go_38 w))
noncomputable def fX8_isKnown (w : zz_W) : Option (Int32 × zz_W) :=
  zbd (zldI w 1 1436 12) fun x9 =>
    if x9 < 0 then
    (some (0, w))
    else
    (zbd2 (fX8_sumOf 4 w) fun x11 w12 =>
    zbd (zldI w12 1 1436 12) fun x13 =>
    zbd2 (fX8_of x13 4 w12) fun x14 w15 =>
    if 0 < (lg_cmp (900 * (Int32.toInt64 x11)) (1000 * (Int32.toInt64 x14))) then
    (some (0, w15))
    else
    (some (1, w15)))
noncomputable def fX8_house (a1 : Int32) (w : zz_W) : Option (Int32 × zz_W) :=
  if a1 = 0 then
    (zbd (zldI w 1 1436 (5 + a1)) fun x27 =>
    some (x27, w))
    else if a1 = 1 then
    (zbd (zldI w 1 1436 (5 + a1)) fun x29 =>
    some (x29, w))
    else if a1 = 2 then
    (zbd (zldI w 1 1436 (5 + a1)) fun x31 =>
    some (x31, w))
    else if a1 = 3 then
    (zbd (zldI w 1 1436 (5 + a1)) fun x33 =>
    some (x33, w))
    else if a1 = 4 then
    (zbd (zldI w 1 1436 (5 + a1)) fun x35 =>
    some (x35, w))
    else if a1 = 5 then
    (zbd (zldI w 1 1436 (5 + a1)) fun x37 =>
    some (x37, w))
    else if a1 = 6 then
    (zbd (zldI w 1 1436 (5 + a1)) fun x39 =>
    some (x39, w))
    else if a1 = 7 then
    (zbd (zldI w 1 1436 12) fun x41 =>
    if 0 ≤ x41 then
    (some (1, w))
    else
    (some (0, w)))
    else if a1 = 8 then
    (zbd2 (fX8_greatest w) fun x44 w45 =>
    zbd2 (fX8_orNothing x44 w45) fun x46 w47 =>
    some (x46, w47))
    else if a1 = 9 then
    (zbd2 (fX8_isKnown w) fun x49 w50 =>
    if x49 = 0 then
    (some (0, w50))
    else
    (some (1, w50)))
    else 
    (some ((-1000000001), w))
noncomputable def fX8_isOf_26 (a1 : Int32) (a2 : Int32) (s0 : Int32) (s1 : Int32) (s2 : Int32) (w : zz_W) : Option (Int32 × zz_W) :=
    zbd2 (fX8_in s0 s1 s2 w) fun x9 w10 =>
    zbd (zboo x9) fun x11 =>
    some (x11, w10)
noncomputable def fX8_isOf (a1 : Int32) (a2 : Int32) (w : zz_W) : Option (Int32 × zz_W) :=
  if a1 = 1 then
    (zbd2 (fX8_isCell a2 w) fun x14 w15 =>
    zbd (zboo x14) fun x16 =>
    some (x16, w15))
    else
    (if a1 = 2 then
    (fX8_isOf_26 a1 a2 a2 1 99 w)
    else
    (fX8_isOf_26 a1 a2 a2 1 9 w))
noncomputable def fX8_isTest (a1 : Int32) (a2 : Int32) (w : zz_W) : Option (Int32 × zz_W) :=
  zbd2 (fX8_in a1 0 3 w) fun x7 w8 =>
    if x7 = 0 then
    (some (0, w8))
    else
    (zbd2 (fX8_isCell a2 w8) fun x10 w11 =>
    if x10 = 0 then
    (some (0, w11))
    else
    (some (1, w11)))
noncomputable def fX8_lossAt_42 (a1 : Int32) (a2 : Int32) (k5 : Int32 → Int32 → Int64 → Int32 → zz_W → Option (Int64 × zz_W)) (l1 : Int32) (l2 : Int32) (l3 : Int64) (l5 : Int32) (s0 : Int32) (w : zz_W) : Option (Int64 × zz_W) :=
    if s0 = 0 then
    (zbd (some (l3 + 0)) fun x19 =>
    zbd (some (l5 + 1)) fun x20 =>
    k5 l1 l2 x19 x20 w)
    else
    (zbd2 (fX8_of l5 4 w) fun x21 w22 =>
    zbd (zldI w22 4 10 l5) fun x23 =>
    zbd (zldI w22 5 10 l5) fun x24 =>
    zbd (some (l3 + (((Int32.toInt64 x21) * (Int32.toInt64 x23)) * (Int32.toInt64 x24)))) fun x25 =>
    zbd (some (l5 + 1)) fun x26 =>
    k5 l1 l2 x25 x26 w22)
noncomputable def fX8_lossAt_41 (a1 : Int32) (a2 : Int32) (k5 : Int32 → Int32 → Int64 → Int32 → zz_W → Option (Int64 × zz_W)) (l1 : Int32) (l2 : Int32) (l3 : Int64) (l5 : Int32) (w : zz_W) : Option (Int64 × zz_W) :=
    fX8_lossAt_42 a1 a2 k5 l1 l2 l3 l5 0 w
noncomputable def fX8_lossAt_5 (a1 : Int32) (a2 : Int32) : Nat → Int32 → Int32 → Int64 → Int32 → zz_W → Option (Int64 × zz_W)
  | 0, _, _, _, _, _ => none
  | n + 1, l1, l2, l3, l5, w =>
    zbd (zldI w 1 1436 1) fun x27 =>
    if x27 ≤ l5 then
    (some (l3, w))
    else
    (zbd2 (fX8_doesPass l5 l1 w) fun x29 w30 =>
    if x29 = 0 then
    (fX8_lossAt_41 a1 a2 (fX8_lossAt_5 a1 a2 n) l1 l2 l3 l5 w30)
    else
    (zbd2 (fX8_of l5 3 w30) fun x32 w33 =>
    if l2 < x32 then
    (fX8_lossAt_41 a1 a2 (fX8_lossAt_5 a1 a2 n) l1 l2 l3 l5 w33)
    else
    (fX8_lossAt_42 a1 a2 (fX8_lossAt_5 a1 a2 n) l1 l2 l3 l5 1 w33)))
noncomputable def fX8_lossAt (a1 : Int32) (a2 : Int32) (w : zz_W) : Option (Int64 × zz_W) :=
  fX8_lossAt_5 a1 a2 zfuel a1 a2 0 0 w
noncomputable def fX8_leastOf_64 (a1 : Int32) (a2 : Int32) (k5 : Int32 → Int32 → Int32 → Int32 → zz_W → Option (Int32 × zz_W)) (l1 : Int32) (l2 : Int32) (l3 : Int32) (l4 : Int32) (l5 : Int32) (s0 : Int32) (w : zz_W) : Option (Int32 × zz_W) :=
    if s0 = 0 then
    (zbd (some (l4 + 1)) fun x18 =>
    k5 l1 l2 l3 x18 w)
    else
    (zbd (some (l4 + 1)) fun x19 =>
    k5 l1 l2 l5 x19 w)
noncomputable def fX8_leastOf_63 (a1 : Int32) (a2 : Int32) (k5 : Int32 → Int32 → Int32 → Int32 → zz_W → Option (Int32 × zz_W)) (l1 : Int32) (l2 : Int32) (l3 : Int32) (l4 : Int32) (l5 : Int32) (w : zz_W) : Option (Int32 × zz_W) :=
    fX8_leastOf_64 a1 a2 k5 l1 l2 l3 l4 l5 0 w
noncomputable def fX8_leastOf_59 (a1 : Int32) (a2 : Int32) (k5 : Int32 → Int32 → Int32 → Int32 → zz_W → Option (Int32 × zz_W)) (l1 : Int32) (l2 : Int32) (l3 : Int32) (l4 : Int32) (l5 : Int32) (w : zz_W) : Option (Int32 × zz_W) :=
    fX8_leastOf_64 a1 a2 k5 l1 l2 l3 l4 l5 1 w
noncomputable def fX8_leastOf_5 (a1 : Int32) (a2 : Int32) : Nat → Int32 → Int32 → Int32 → Int32 → zz_W → Option (Int32 × zz_W)
  | 0, _, _, _, _, _ => none
  | n + 1, l1, l2, l3, l4, w =>
    zbd (zldI w 16 4 l1) fun x20 =>
    if x20 ≤ l4 then
    (some (l3, w))
    else
    (zbd (zldI w 17 96 ((24 * l1) + l4)) fun x22 =>
    zbd2 (fX8_isCell x22 w) fun x23 w24 =>
    if x23 = 0 then
    (fX8_leastOf_63 a1 a2 (fX8_leastOf_5 a1 a2 n) l1 l2 l3 l4 x22 w24)
    else
    (if l3 < 0 then
    (fX8_leastOf_59 a1 a2 (fX8_leastOf_5 a1 a2 n) l1 l2 l3 l4 x22 w24)
    else
    (zbd2 (fX8_lossAt x22 l2 w24) fun x27 w28 =>
    zbd2 (fX8_lossAt l3 l2 w28) fun x29 w30 =>
    if 0 ≤ (lg_cmp x27 x29) then
    (fX8_leastOf_63 a1 a2 (fX8_leastOf_5 a1 a2 n) l1 l2 l3 l4 x22 w30)
    else
    (fX8_leastOf_59 a1 a2 (fX8_leastOf_5 a1 a2 n) l1 l2 l3 l4 x22 w30))))
noncomputable def fX8_leastOf (a1 : Int32) (a2 : Int32) (w : zz_W) : Option (Int32 × zz_W) :=
  zbd (some (-1)) fun x32 =>
    fX8_leastOf_5 a1 a2 zfuel a1 a2 x32 0 w
noncomputable def fX8_weighsAll_2 : Nat → Int32 → zz_W → Option (zz_W)
  | 0, _, _ => none
  | n + 1, l1, w =>
    zbd (zldI w 1 1436 1) fun x8 =>
    if x8 ≤ l1 then
    (some w)
    else
    (zbd (zstI w 4 10 l1 1) fun w10 =>
    zbd2 (fX8_hurtBy l1 w10) fun x11 w12 =>
    zbd (zstI w12 5 10 l1 x11) fun w13 =>
    zbd (some (l1 + 1)) fun x14 =>
    fX8_weighsAll_2 n x14 w13)
noncomputable def fX8_weighsAll (w : zz_W) : Option (zz_W) :=
  fX8_weighsAll_2 zfuel 0 w
noncomputable def fX8_isWished (a1 : Int32) (w : zz_W) : Option (Int32 × zz_W) :=
  zbd (fX8_weighsAll w) fun w7 =>
    zbd (zldI w7 1 1436 1) fun x8 =>
    if x8 ≤ 0 then
    (some (0, w7))
    else
    (zbd2 (fX8_leastOf a1 1 w7) fun x10 w11 =>
    if x10 < 0 then
    (some (0, w11))
    else
    (some (1, w11)))
noncomputable def fX8_item (a1 : Int32) (a2 : Int32) (w : zz_W) : Option (Int32 × zz_W) :=
  zbd2 (fX8_isSlot a1 w) fun x14 w15 =>
    if x14 = 0 then
    (some ((-1000000001), w15))
    else
    (zbd (zldI w15 18 5 a1) fun x17 =>
    if x17 = 0 then
    (some ((-1000000011), w15))
    else
    (zbd (zldI w15 18 5 a1) fun x19 =>
    if x19 = 2 then
    (zbd (zldI w15 19 5 a1) fun x21 =>
    zbd2 (fX8_in a2 0 (x21 - 1) w15) fun x22 w23 =>
    if x22 = 0 then
    (some ((-1000000013), w23))
    else
    (zbd (zldI w23 21 120 ((24 * a1) + a2)) fun x25 =>
    if x25 = (-1000000005) then
    (some ((-1000000012), w23))
    else
    (some (x25, w23))))
    else
    (some ((-1000000012), w15))))
noncomputable def fX8_keep (w : zz_W) : Option (Int32 × zz_W) :=
  zbd (fX8_copyAll 1 2 w) fun w4 =>
    zbd (some (zsI w4 0 3 1)) fun w5 =>
    zbd (zldI w5 1 1436 1) fun x6 =>
    some (x6, w5)
noncomputable def fX8_worthOf (a1 : Int32) (w : zz_W) : Option (Int32 × zz_W) :=
  zbd2 (fX8_of a1 3 w) fun x10 w11 =>
    zbd2 (fX8_of a1 0 w11) fun x12 w13 =>
    if x12 = 1 then
    (some (x10 + 9, w13))
    else if x12 = 2 then
    (some (99 - x10, w13))
    else if x12 = 3 then
    (some (2 * (x10 + 9), w13))
    else if x12 = 4 then
    (some (94 - x10, w13))
    else if x12 = 5 then
    (some (2, w13))
    else 
    (some (x10, w13))
noncomputable def fX8_lay_134 (a1 : Int32) (a2 : Int32) (a3 : Int32) : Nat → Int32 → Int32 → Int32 → Int32 → Int32 → zz_W → Option (Int32 × zz_W)
  | 0, _, _, _, _, _, _ => none
  | n + 1, l1, l2, l3, l4, l5, w =>
    if 24 ≤ l5 then
    (some (l4, w))
    else
    (if l2 = 2 then
    (zbd (zldI w 17 96 ((24 * l3) + l5)) fun x37 =>
    zbd (zstI w 21 120 ((24 * l1) + l5) x37) fun w38 =>
    zbd (some (l5 + 1)) fun x39 =>
    fX8_lay_134 a1 a2 a3 n l1 l2 l3 l4 x39 w38)
    else
    (some (l4, w)))
noncomputable def fX8_lay_130 (a1 : Int32) (a2 : Int32) (a3 : Int32) (l1 : Int32) (l2 : Int32) (l3 : Int32) (l4 : Int32) (s1 : Int32) (s2 : Int32) (w : zz_W) : Option (Int32 × zz_W) :=
    zbd (zstI w 20 5 s1 s2) fun w40 =>
    fX8_lay_134 a1 a2 a3 zfuel l1 l2 l3 l4 0 w40
noncomputable def fX8_lay_110 (a1 : Int32) (a2 : Int32) (a3 : Int32) (l1 : Int32) (l2 : Int32) (l3 : Int32) (l4 : Int32) (s1 : Int32) (s2 : Int32) (w : zz_W) : Option (Int32 × zz_W) :=
    zbd (zstI w 19 5 s1 s2) fun w41 =>
    if l2 = 1 then
    (zbd2 (fX8_worthOf l3 w41) fun x43 w44 =>
    fX8_lay_130 a1 a2 a3 l1 l2 l3 l4 l1 x43 w44)
    else
    (fX8_lay_130 a1 a2 a3 l1 l2 l3 l4 l1 0 w41)
noncomputable def fX8_lay_61 (a1 : Int32) (a2 : Int32) (a3 : Int32) (l1 : Int32) (l2 : Int32) (l3 : Int32) (w : zz_W) : Option (Int32 × zz_W) :=
    zbd (zldI w 18 5 l1) fun x45 =>
    zbd (zstI w 18 5 l1 l2) fun w46 =>
    if l2 = 1 then
    (zbd2 (fX8_of l3 0 w46) fun x50 w51 =>
    fX8_lay_110 a1 a2 a3 l1 l2 l3 x45 l1 x50 w51)
    else
    (if l2 = 2 then
    (zbd (zldI w46 16 4 l3) fun x49 =>
    fX8_lay_110 a1 a2 a3 l1 l2 l3 x45 l1 x49 w46)
    else
    (fX8_lay_110 a1 a2 a3 l1 l2 l3 x45 l1 l3 w46))
noncomputable def fX8_lay_44 (a1 : Int32) (a2 : Int32) (a3 : Int32) (l1 : Int32) (l2 : Int32) (l3 : Int32) (w : zz_W) : Option (Int32 × zz_W) :=
    if l2 = 2 then
    (zbd (zldI w 15 4 l3) fun x53 =>
    if 0 ≤ x53 then
    (fX8_lay_61 a1 a2 a3 l1 l2 l3 w)
    else
    (some ((-1000000011), w)))
    else
    (fX8_lay_61 a1 a2 a3 l1 l2 l3 w)
noncomputable def fX8_lay_29 (a1 : Int32) (a2 : Int32) (a3 : Int32) (l1 : Int32) (l2 : Int32) (l3 : Int32) (w : zz_W) : Option (Int32 × zz_W) :=
    if l2 = 2 then
    (zbd2 (fX8_isSheet l3 w) fun x56 w57 =>
    if x56 = 0 then
    (some ((-1000000001), w57))
    else
    (fX8_lay_44 a1 a2 a3 l1 l2 l3 w57))
    else
    (fX8_lay_44 a1 a2 a3 l1 l2 l3 w)
noncomputable def fX8_lay (a1 : Int32) (a2 : Int32) (a3 : Int32) (w : zz_W) : Option (Int32 × zz_W) :=
  zbd2 (fX8_isSlot a1 w) fun x59 w60 =>
    if x59 = 0 then
    (some ((-1000000001), w60))
    else
    (zbd2 (fX8_in a2 0 3 w60) fun x62 w63 =>
    if x62 = 0 then
    (some ((-1000000001), w63))
    else
    (if a2 = 1 then
    (zbd2 (fX8_isRun a3 w63) fun x66 w67 =>
    if x66 = 0 then
    (some ((-1000000001), w67))
    else
    (fX8_lay_29 a1 a2 a3 a1 a2 a3 w67))
    else
    (fX8_lay_29 a1 a2 a3 a1 a2 a3 w63)))
noncomputable def fX8_learnOf_80 (a1 : Int32) (a2 : Int32) (a3 : Int32) (a4 : Int32) (k35 : Int32 → Int32 → Int32 → Int32 → Int64 → Int32 → Int32 → zz_W → Option (Int32 × zz_W)) (l1 : Int32) (l2 : Int32) (l3 : Int32) (l4 : Int32) (l5 : Int64) (l7 : Int32) (l8 : Int32) (s1 : Int32) (s3 : Int32) (w : zz_W) : Option (Int32 × zz_W) :=
    zbd2 (fX8_oddsToBeTold s3 l1 w) fun x27 w28 =>
    zbd (zstI w28 4 10 s1 x27) fun w29 =>
    zbd (some (l8 + 1)) fun x30 =>
    k35 l1 l2 l3 l4 l5 l7 x30 w29
noncomputable def fX8_learnOf_72 (a1 : Int32) (a2 : Int32) (a3 : Int32) (a4 : Int32) (k35 : Int32 → Int32 → Int32 → Int32 → Int64 → Int32 → Int32 → zz_W → Option (Int32 × zz_W)) (l1 : Int32) (l2 : Int32) (l3 : Int32) (l4 : Int32) (l5 : Int64) (l7 : Int32) (l8 : Int32) (s1 : Int32) (s3 : Int32) (s4 : Int32) (w : zz_W) : Option (Int32 × zz_W) :=
    if s3 = s4 then
    (fX8_learnOf_80 a1 a2 a3 a4 k35 l1 l2 l3 l4 l5 l7 l8 s1 1 w)
    else
    (fX8_learnOf_80 a1 a2 a3 a4 k35 l1 l2 l3 l4 l5 l7 l8 s1 0 w)
noncomputable def fX8_learnOf_35 (a1 : Int32) (a2 : Int32) (a3 : Int32) (a4 : Int32) (k26 : Int32 → Int32 → Int32 → Int32 → Int64 → Int32 → zz_W → Option (Int32 × zz_W)) : Nat → Int32 → Int32 → Int32 → Int32 → Int64 → Int32 → Int32 → zz_W → Option (Int32 × zz_W)
  | 0, _, _, _, _, _, _, _, _ => none
  | n + 1, l1, l2, l3, l4, l5, l7, l8, w =>
    zbd (zldI w 1 1436 1) fun x32 =>
    if x32 ≤ l8 then
    (zbd2 (fX8_leastOf l3 l4 w) fun x34 w35 =>
    zbd2 (fX8_lossAt x34 l4 w35) fun x36 w37 =>
    zbd (some (l5 - x36)) fun x38 =>
    zbd (some (l7 + 1)) fun x39 =>
    k26 l1 l2 l3 l4 x38 x39 w37)
    else
    (zbd2 (fX8_doesTell l8 l1 l2 w) fun x40 w41 =>
    if l7 = 1 then
    (fX8_learnOf_72 a1 a2 a3 a4 (fX8_learnOf_35 a1 a2 a3 a4 k26 n) l1 l2 l3 l4 l5 l7 l8 l8 x40 1 w41)
    else
    (fX8_learnOf_72 a1 a2 a3 a4 (fX8_learnOf_35 a1 a2 a3 a4 k26 n) l1 l2 l3 l4 l5 l7 l8 l8 x40 0 w41))
noncomputable def fX8_learnOf_26 (a1 : Int32) (a2 : Int32) (a3 : Int32) (a4 : Int32) : Nat → Int32 → Int32 → Int32 → Int32 → Int64 → Int32 → zz_W → Option (Int32 × zz_W)
  | 0, _, _, _, _, _, _, _ => none
  | n + 1, l1, l2, l3, l4, l5, l7, w =>
    if 2 ≤ l7 then
    (zbd2 (fX8_sumOf 4 w) fun x44 w45 =>
    zbd (zldiv (1000 * l5) (100 * (Int32.toInt64 x44))) fun x46 =>
    some (Int64.toInt32 x46, w45))
    else
    (fX8_learnOf_35 a1 a2 a3 a4 (fX8_learnOf_26 a1 a2 a3 a4 n) zfuel l1 l2 l3 l4 l5 l7 0 w)
noncomputable def fX8_learnOf (a1 : Int32) (a2 : Int32) (a3 : Int32) (a4 : Int32) (w : zz_W) : Option (Int32 × zz_W) :=
  zbd (fX8_weighsAll w) fun w47 =>
    zbd2 (fX8_leastOf a3 a4 w47) fun x48 w49 =>
    zbd2 (fX8_lossAt x48 a4 w49) fun x50 w51 =>
    zbd (some (100 * x50)) fun x52 =>
    fX8_learnOf_26 a1 a2 a3 a4 zfuel a1 a2 a3 a4 x52 0 w51
noncomputable def fX8_learn (a1 : Int32) (a2 : Int32) (a3 : Int32) (a4 : Int32) (w : zz_W) : Option (Int32 × zz_W) :=
  zbd2 (fX8_isTest a1 a2 w) fun x17 w18 =>
    if x17 = 0 then
    (some ((-1000000001), w18))
    else
    (zbd2 (fX8_isSheet a3 w18) fun x20 w21 =>
    if x20 = 0 then
    (some ((-1000000001), w21))
    else
    (zbd2 (fX8_in a4 1 9 w21) fun x23 w24 =>
    if x23 = 0 then
    (some ((-1000000001), w24))
    else
    (zbd (zldI w24 15 4 a3) fun x26 =>
    if 0 ≤ x26 then
    (zbd2 (fX8_isWished a3 w24) fun x28 w29 =>
    if x28 = 0 then
    (some ((-1000000005), w29))
    else
    (zbd2 (fX8_learnOf a1 a2 a3 a4 w29) fun x31 w32 =>
    some (x31, w32)))
    else
    (some ((-1000000011), w24)))))
noncomputable def fX8_manyPassed_4 (a1 : Int32) : Nat → Int32 → Int32 → Int32 → zz_W → Option (Int32 × zz_W)
  | 0, _, _, _, _ => none
  | n + 1, l1, l2, l3, w =>
    if 36 ≤ l3 then
    (some (l2, w))
    else
    (zbd2 (fX8_doesPass l1 l3 w) fun x10 w11 =>
    if x10 = 0 then
    (zbd (some (l2 + 0)) fun x13 =>
    zbd (some (l3 + 1)) fun x14 =>
    fX8_manyPassed_4 a1 n l1 x13 x14 w11)
    else
    (zbd (some (l2 + 1)) fun x15 =>
    zbd (some (l3 + 1)) fun x16 =>
    fX8_manyPassed_4 a1 n l1 x15 x16 w11))
noncomputable def fX8_manyPassed (a1 : Int32) (w : zz_W) : Option (Int32 × zz_W) :=
  fX8_manyPassed_4 a1 zfuel a1 0 0 w
noncomputable def fX8_mark_116 (a1 : Int32) (a2 : Int32) (a3 : Int32) (s1 : Int32) (s2 : Int32) (w : zz_W) : Option (Int32 × zz_W) :=
    zbd (zstI w 17 96 s1 s2) fun w22 =>
    some (1, w22)
noncomputable def fX8_mark_91 (a1 : Int32) (a2 : Int32) (a3 : Int32) (l1 : Int32) (l2 : Int32) (l3 : Int32) (w : zz_W) : Option (Int32 × zz_W) :=
    zbd (zldI w 15 4 l1) fun x23 =>
    if x23 = 0 then
    (fX8_mark_116 a1 a2 a3 ((24 * l1) + l2) ((Int32.toInt16 l3).toInt32) w)
    else
    (fX8_mark_116 a1 a2 a3 ((24 * l1) + l2) l3 w)
noncomputable def fX8_mark_60 (a1 : Int32) (a2 : Int32) (a3 : Int32) (l1 : Int32) (l2 : Int32) (l3 : Int32) (w : zz_W) : Option (Int32 × zz_W) :=
    zbd (zldI w 15 4 l1) fun x25 =>
    if x25 = 1 then
    (if l3 = (-1000000005) then
    (fX8_mark_91 a1 a2 a3 l1 l2 l3 w)
    else
    (zbd2 (fX8_in l3 (-99999) 99999 w) fun x28 w29 =>
    if x28 = 0 then
    (some ((-1000000001), w29))
    else
    (fX8_mark_91 a1 a2 a3 l1 l2 l3 w29)))
    else
    (fX8_mark_91 a1 a2 a3 l1 l2 l3 w)
noncomputable def fX8_mark (a1 : Int32) (a2 : Int32) (a3 : Int32) (w : zz_W) : Option (Int32 × zz_W) :=
  zbd2 (fX8_isSheet a1 w) fun x31 w32 =>
    if x31 = 0 then
    (some ((-1000000001), w32))
    else
    (zbd (zldI w32 15 4 a1) fun x34 =>
    if 0 ≤ x34 then
    (zbd (zldI w32 16 4 a1) fun x36 =>
    zbd2 (fX8_in a2 0 (x36 - 1) w32) fun x37 w38 =>
    if x37 = 0 then
    (some ((-1000000013), w38))
    else
    (zbd (zldI w38 15 4 a1) fun x40 =>
    if x40 = 0 then
    (if a3 = (-1000000005) then
    (some ((-1000000012), w38))
    else
    (fX8_mark_60 a1 a2 a3 a1 a2 a3 w38))
    else
    (fX8_mark_60 a1 a2 a3 a1 a2 a3 w38)))
    else
    (some ((-1000000011), w32)))
noncomputable def fX8_nameOf (a1 : Int32) (w : zz_W) : Option (Int32 × zz_W) :=
  zbd (some (zgI w 0 14)) fun x11 =>
    if x11 = 0 then
    (if a1 = 100 then
    (some (0, w))
    else
    (if a1 = 109 then
    (some (1, w))
    else
    (if a1 = 108 then
    (some (2, w))
    else
    (some ((-1), w)))))
    else if x11 = 1 then
    (if a1 = 99 then
    (some (0, w))
    else
    (if a1 = 116 then
    (some (1, w))
    else
    (some ((-1), w))))
    else 
    (if a1 = 111 then
    (some (0, w))
    else
    (if a1 = 100 then
    (some (1, w))
    else
    (some ((-1), w))))
noncomputable def fX8_notsOpen_4 : Nat → Int32 → Int32 → zz_W → Option (Int32 × zz_W)
  | 0, _, _, _ => none
  | n + 1, l1, l2, w =>
    zbd (some (zgI w 0 21)) fun x9 =>
    if x9 ≤ l2 then
    (some (l1, w))
    else
    (zbd (zldI w 11 96 l2) fun x11 =>
    if x11 = (-10) then
    (zbd (some (l1 + 1)) fun x15 =>
    zbd (some (l2 + 1)) fun x16 =>
    fX8_notsOpen_4 n x15 x16 w)
    else
    (zbd (some (l1 + 0)) fun x13 =>
    zbd (some (l2 + 1)) fun x14 =>
    fX8_notsOpen_4 n x13 x14 w))
noncomputable def fX8_notsOpen (w : zz_W) : Option (Int32 × zz_W) :=
  fX8_notsOpen_4 zfuel 0 0 w
noncomputable def fX8_passes_25 (a1 : Int32) (a2 : Int32) : Nat → Int32 → Int32 → Int32 → Int32 → zz_W → Option (Int32 × zz_W)
  | 0, _, _, _, _, _ => none
  | n + 1, l1, l2, l3, l4, w =>
    if 6 ≤ l4 then
    (some (l3, w))
    else
    (zbd2 (fX8_doesPass l1 ((6 * l2) + l4) w) fun x16 w17 =>
    if x16 = 0 then
    (zbd (some (l3 ||| 0)) fun x19 =>
    zbd (some (l4 + 1)) fun x20 =>
    fX8_passes_25 a1 a2 n l1 l2 x19 x20 w17)
    else
    (zbd (some (l3 ||| (1 <<< (l4 &&& 31)))) fun x21 =>
    zbd (some (l4 + 1)) fun x22 =>
    fX8_passes_25 a1 a2 n l1 l2 x21 x22 w17))
noncomputable def fX8_passes (a1 : Int32) (a2 : Int32) (w : zz_W) : Option (Int32 × zz_W) :=
  zbd2 (fX8_isRun a1 w) fun x23 w24 =>
    if x23 = 0 then
    (some ((-1000000001), w24))
    else
    (zbd2 (fX8_in a2 0 5 w24) fun x26 w27 =>
    if x26 = 0 then
    (some ((-1000000001), w27))
    else
    (fX8_passes_25 a1 a2 zfuel a1 a2 0 0 w27))
noncomputable def fX8_pour_83 (a1 : Int32) (k26 : Int32 → Int32 → Int32 → zz_W → Option (Int32 × zz_W)) (l1 : Int32) (l2 : Int32) (l3 : Int32) (s0 : Int32) (w : zz_W) : Option (Int32 × zz_W) :=
    zbd2 (fX8_becomes ((14 + (5 * l3)) + 2) s0 w) fun x23 w24 =>
    if x23 = s0 then
    (zbd (some (l2 + 0)) fun x28 =>
    zbd (some (l3 + 1)) fun x29 =>
    k26 l1 x28 x29 w24)
    else
    (zbd (some (l2 + 1)) fun x26 =>
    zbd (some (l3 + 1)) fun x27 =>
    k26 l1 x26 x27 w24)
noncomputable def fX8_pour_26 (a1 : Int32) : Nat → Int32 → Int32 → Int32 → zz_W → Option (Int32 × zz_W)
  | 0, _, _, _, _ => none
  | n + 1, l1, l2, l3, w =>
    zbd (zldI w 16 4 l1) fun x30 =>
    if x30 ≤ l3 then
    (some (l2, w))
    else
    (zbd (zldI w 1 1436 1) fun x32 =>
    if x32 ≤ l3 then
    (some (l2, w))
    else
    (zbd (zldI w 17 96 ((24 * l1) + l3)) fun x34 =>
    if x34 = (-1000000005) then
    (zbd2 (fX8_of l3 2 w) fun x38 w39 =>
    fX8_pour_83 a1 (fX8_pour_26 a1 n) l1 l2 l3 x38 w39)
    else
    (zbd2 (fX8_within x34 1 99 w) fun x36 w37 =>
    fX8_pour_83 a1 (fX8_pour_26 a1 n) l1 l2 l3 x36 w37)))
noncomputable def fX8_pour (a1 : Int32) (w : zz_W) : Option (Int32 × zz_W) :=
  zbd2 (fX8_isSheet a1 w) fun x40 w41 =>
    if x40 = 0 then
    (some ((-1000000001), w41))
    else
    (zbd (zldI w41 15 4 a1) fun x43 =>
    if 0 ≤ x43 then
    (fX8_pour_26 a1 zfuel a1 0 0 w41)
    else
    (some ((-1000000011), w41)))
noncomputable def fX8_probe (a1 : Int32) (a2 : Int32) (w : zz_W) : Option (Int32 × zz_W) :=
  zbd2 (fX8_isTest a1 a2 w) fun x9 w10 =>
    if x9 = 0 then
    (some ((-1000000001), w10))
    else
    (zbd (zldI w10 1 1436 12) fun x12 =>
    if 0 ≤ x12 then
    (zbd2 (fX8_tests a1 a2 w10) fun x14 w15 =>
    if x14 = 0 then
    (some (0, w15))
    else
    (some (1, w15)))
    else
    (some ((-1000000002), w10)))
noncomputable def fX8_rank (a1 : Int32) (w : zz_W) : Option (Int32 × zz_W) :=
  if a1 = (-1) then
    (some (1, w))
    else
    (if a1 = (-2) then
    (some (2, w))
    else
    (if a1 < (-5) then
    (if a1 < (-7) then
    (if a1 < (-9) then
    (some (6, w))
    else
    (some (5, w)))
    else
    (some (4, w)))
    else
    (some (3, w))))
noncomputable def fX8_reads_24 (a1 : Int32) : Nat → Int32 → Int32 → zz_W → Option (Int32 × zz_W)
  | 0, _, _, _ => none
  | n + 1, l1, l2, w =>
    zbd (zldI w 16 4 l1) fun x18 =>
    if x18 ≤ l2 then
    (some ((-1000000005), w))
    else
    (zbd (zldI w 17 96 ((24 * l1) + l2)) fun x20 =>
    if x20 = (-1000000005) then
    (zbd (some (l2 + 1)) fun x22 =>
    fX8_reads_24 a1 n l1 x22 w)
    else
    (zbd2 (fX8_isRun l2 w) fun x23 w24 =>
    if x23 = 0 then
    (some (l2, w24))
    else
    (zbd2 (fX8_of l2 3 w24) fun x26 w27 =>
    if x20 = x26 then
    (zbd (some (l2 + 1)) fun x29 =>
    fX8_reads_24 a1 n l1 x29 w27)
    else
    (some (l2, w27)))))
noncomputable def fX8_reads (a1 : Int32) (w : zz_W) : Option (Int32 × zz_W) :=
  zbd2 (fX8_isSheet a1 w) fun x30 w31 =>
    if x30 = 0 then
    (some ((-1000000001), w31))
    else
    (zbd (zldI w31 15 4 a1) fun x33 =>
    if 0 ≤ x33 then
    (fX8_reads_24 a1 zfuel a1 0 w31)
    else
    (some ((-1000000011), w31)))
noncomputable def fX8_rest (a1 : Int32) (a2 : Int32) (w : zz_W) : Option (Int32 × zz_W) :=
  zbd2 (fX8_isSlot a1 w) fun x12 w13 =>
    if x12 = 0 then
    (some ((-1000000001), w13))
    else
    (zbd (zldI w13 18 5 a1) fun x15 =>
    if x15 = 0 then
    (some ((-1000000011), w13))
    else
    (zbd (zldI w13 18 5 a1) fun x17 =>
    if x17 = 3 then
    (if a2 = 0 then
    (some ((-1000000002), w13))
    else
    (if a2 = (-1) then
    (some (0, w13))
    else
    (zbd (zldI w13 19 5 a1) fun x21 =>
    zbd (zrem x21 a2) fun x22 =>
    some (x22, w13))))
    else
    (some ((-1000000012), w13))))
noncomputable def fX8_riskAt (a1 : Int32) (a2 : Int32) (w : zz_W) : Option (Int32 × zz_W) :=
  zbd (fX8_weighsAll w) fun w7 =>
    zbd2 (fX8_lossAt a1 a2 w7) fun x8 w9 =>
    zbd2 (fX8_sumOf 4 w9) fun x10 w11 =>
    zbd (zldiv (1000 * x8) (Int32.toInt64 x10)) fun x12 =>
    some (Int64.toInt32 x12, w11)
noncomputable def fX8_risk (a1 : Int32) (a2 : Int32) (w : zz_W) : Option (Int32 × zz_W) :=
  zbd2 (fX8_isCell a1 w) fun x11 w12 =>
    if x11 = 0 then
    (some ((-1000000001), w12))
    else
    (zbd2 (fX8_in a2 1 9 w12) fun x14 w15 =>
    if x14 = 0 then
    (some ((-1000000001), w15))
    else
    (zbd (zldI w15 1 1436 1) fun x17 =>
    if x17 = 0 then
    (some ((-1000000005), w15))
    else
    (zbd2 (fX8_riskAt a1 a2 w15) fun x19 w20 =>
    some (x19, w20))))
noncomputable def fX8_rule_21 (a1 : Int32) (a2 : Int32) (l1 : Int32) (l2 : Int32) (s0 : Int32) (s1 : Int32) (s2 : Int32) (w : zz_W) : Option (Int32 × zz_W) :=
    zbd2 (fX8_in s0 s1 s2 w) fun x10 w11 =>
    if x10 = 0 then
    (some ((-1000000001), w11))
    else
    (zbd2 (fX8_becomes (3 + l1) l2 w11) fun x13 w14 =>
    some (x13, w14))
noncomputable def fX8_rule (a1 : Int32) (a2 : Int32) (w : zz_W) : Option (Int32 × zz_W) :=
  zbd2 (fX8_in a1 0 1 w) fun x15 w16 =>
    if x15 = 0 then
    (some ((-1000000001), w16))
    else
    (if a1 = 0 then
    (fX8_rule_21 a1 a2 a1 a2 a2 0 49 w16)
    else
    (fX8_rule_21 a1 a2 a1 a2 a2 0 1 w16))
noncomputable def fX8_run (a1 : Int32) (a2 : Int32) (a3 : Int32) (a4 : Int32) (w : zz_W) : Option (Int32 × zz_W) :=
  zbd2 (fX8_in a1 0 5 w) fun x17 w18 =>
    if x17 = 0 then
    (some ((-1000000001), w18))
    else
    (zbd2 (fX8_isOf 1 a2 w18) fun x20 w21 =>
    if x20 = 0 then
    (some ((-1000000001), w21))
    else
    (zbd2 (fX8_isOf 2 a3 w21) fun x23 w24 =>
    if x23 = 0 then
    (some ((-1000000001), w24))
    else
    (zbd2 (fX8_isOf 3 a4 w24) fun x26 w27 =>
    if x26 = 0 then
    (some ((-1000000001), w27))
    else
    (zbd (zldI w27 1 1436 1) fun x29 =>
    if x29 = 10 then
    (some ((-1000000003), w27))
    else
    (zbd2 (fX8_comes a1 a2 a3 a4 w27) fun x31 w32 =>
    some (x31, w32))))))
noncomputable def fX8_safe_35 (a1 : Int32) (a2 : Int32) : Nat → Int32 → Int32 → Int32 → zz_W → Option (Int32 × zz_W)
  | 0, _, _, _, _ => none
  | n + 1, l1, l2, l3, w =>
    if l3 ≤ 0 then
    (some (l3, w))
    else
    (zbd2 (fX8_riskAt l1 l3 w) fun x15 w16 =>
    if x15 ≤ l2 then
    (some (l3, w16))
    else
    (zbd (some (l3 + (-1))) fun x18 =>
    fX8_safe_35 a1 a2 n l1 l2 x18 w16))
noncomputable def fX8_safe (a1 : Int32) (a2 : Int32) (w : zz_W) : Option (Int32 × zz_W) :=
  zbd2 (fX8_isCell a1 w) fun x19 w20 =>
    if x19 = 0 then
    (some ((-1000000001), w20))
    else
    (zbd2 (fX8_in a2 0 99999 w20) fun x22 w23 =>
    if x22 = 0 then
    (some ((-1000000001), w23))
    else
    (zbd (zldI w23 1 1436 1) fun x25 =>
    if x25 = 0 then
    (some ((-1000000005), w23))
    else
    (fX8_safe_35 a1 a2 zfuel a1 a2 9 w23)))
noncomputable def fX8_seed (a1 : Int32) (w : zz_W) : Option (Int32 × zz_W) :=
  zbd2 (fX8_becomes 0 a1 w) fun x3 w4 =>
    some (x3, w4)
noncomputable def fX8_set (a1 : Int32) (a2 : Int32) (a3 : Int32) (w : zz_W) : Option (Int32 × zz_W) :=
  zbd2 (fX8_isRun a1 w) fun x12 w13 =>
    if x12 = 0 then
    (some ((-1000000001), w13))
    else
    (zbd2 (fX8_in a2 1 3 w13) fun x15 w16 =>
    if x15 = 0 then
    (some ((-1000000001), w16))
    else
    (zbd2 (fX8_isOf a2 a3 w16) fun x18 w19 =>
    if x18 = 0 then
    (some ((-1000000001), w19))
    else
    (zbd2 (fX8_becomes ((14 + (5 * a1)) + a2) a3 w19) fun x21 w22 =>
    some (x21, w22))))
noncomputable def fX8_settle_0 (a1 : Int32) : Nat → Int32 → zz_W → Option (zz_W)
  | 0, _, _ => none
  | n + 1, l1, w =>
    zbd (some (zgI w 0 21)) fun x19 =>
    if x19 ≤ 0 then
    (some w)
    else
    (zbd (some (zgI w 0 21)) fun x21 =>
    zbd (zldI w 11 96 (x21 - 1)) fun x22 =>
    if x22 = (-11) then
    (some w)
    else
    (zbd (some (zgI w 0 21)) fun x24 =>
    zbd (zldI w 11 96 (x24 - 1)) fun x25 =>
    zbd2 (fX8_rank x25 w) fun x26 w27 =>
    if x26 < l1 then
    (some w27)
    else
    (zbd (some (zgI w27 0 21)) fun x29 =>
    zbd (some (zsI w27 0 21 (x29 - 1))) fun w30 =>
    zbd (some (zgI w30 0 18)) fun x31 =>
    zbd (some (zgI w30 0 21)) fun x32 =>
    zbd (zldI w30 11 96 x32) fun x33 =>
    zbd (zstI w30 10 96 x31 x33) fun w34 =>
    zbd (some (zgI w34 0 18)) fun x35 =>
    zbd (some (zsI w34 0 18 (x35 + 1))) fun w36 =>
    fX8_settle_0 a1 n l1 w36)))
noncomputable def fX8_settle (a1 : Int32) (w : zz_W) : Option (zz_W) :=
  zbd (some (zgI w 0 21)) fun x37 =>
    if x37 ≤ 0 then
    (some w)
    else
    (zbd (some (zgI w 0 21)) fun x39 =>
    zbd (zldI w 11 96 (x39 - 1)) fun x40 =>
    if x40 = (-11) then
    (some w)
    else
    (zbd (some (zgI w 0 21)) fun x42 =>
    zbd (zldI w 11 96 (x42 - 1)) fun x43 =>
    zbd2 (fX8_rank x43 w) fun x44 w45 =>
    if x44 < a1 then
    (some w45)
    else
    (zbd (some (zgI w45 0 21)) fun x47 =>
    zbd (some (zsI w45 0 21 (x47 - 1))) fun w48 =>
    zbd (some (zgI w48 0 18)) fun x49 =>
    zbd (some (zgI w48 0 21)) fun x50 =>
    zbd (zldI w48 11 96 x50) fun x51 =>
    zbd (zstI w48 10 96 x49 x51) fun w52 =>
    zbd (some (zgI w52 0 18)) fun x53 =>
    zbd (some (zsI w52 0 18 (x53 + 1))) fun w54 =>
    fX8_settle_0 a1 zfuel a1 w54)))
noncomputable def fX8_sheet_66 (a1 : Int32) (a2 : Int32) (a3 : Int32) : Nat → Int32 → Int32 → zz_W → Option (Int32 × zz_W)
  | 0, _, _, _ => none
  | n + 1, l1, l4, w =>
    if 24 ≤ l4 then
    (zbd (zldI w 16 4 l1) fun x19 =>
    some (x19, w))
    else
    (zbd (zstI w 17 96 ((24 * l1) + l4) 0) fun w20 =>
    zbd (some (l4 + 1)) fun x21 =>
    fX8_sheet_66 a1 a2 a3 n l1 x21 w20)
noncomputable def fX8_sheet_62 (a1 : Int32) (a2 : Int32) (a3 : Int32) (l1 : Int32) (s1 : Int32) (s2 : Int32) (w : zz_W) : Option (Int32 × zz_W) :=
    zbd (zstI w 16 4 s1 s2) fun w22 =>
    fX8_sheet_66 a1 a2 a3 zfuel l1 0 w22
noncomputable def fX8_sheet_41 (a1 : Int32) (a2 : Int32) (a3 : Int32) (l1 : Int32) (l2 : Int32) (l3 : Int32) (w : zz_W) : Option (Int32 × zz_W) :=
    zbd (zstI w 15 4 l1 l2) fun w23 =>
    if 0 ≤ l2 then
    (fX8_sheet_62 a1 a2 a3 l1 l1 l3 w23)
    else
    (fX8_sheet_62 a1 a2 a3 l1 l1 0 w23)
noncomputable def fX8_sheet_29 (a1 : Int32) (a2 : Int32) (a3 : Int32) (l1 : Int32) (l2 : Int32) (l3 : Int32) (w : zz_W) : Option (Int32 × zz_W) :=
    if l2 < 0 then
    (fX8_sheet_41 a1 a2 a3 l1 l2 l3 w)
    else
    (if 0 ≤ l3 then
    (fX8_sheet_41 a1 a2 a3 l1 l2 l3 w)
    else
    (some ((-1000000014), w)))
noncomputable def fX8_sheet (a1 : Int32) (a2 : Int32) (a3 : Int32) (w : zz_W) : Option (Int32 × zz_W) :=
  zbd2 (fX8_isSheet a1 w) fun x27 w28 =>
    if x27 = 0 then
    (some ((-1000000001), w28))
    else
    (zbd2 (fX8_in a2 (-1) 1 w28) fun x30 w31 =>
    if x30 = 0 then
    (some ((-1000000001), w31))
    else
    (if a2 < 0 then
    (fX8_sheet_29 a1 a2 a3 a1 a2 a3 w31)
    else
    (if a3 ≤ 24 then
    (fX8_sheet_29 a1 a2 a3 a1 a2 a3 w31)
    else
    (some ((-1000000001), w31)))))
noncomputable def fX8_signHere (w : zz_W) : Option (Int32 × zz_W) :=
  zbd (some (zgI w 0 11)) fun x13 =>
    if x13 = 3 then
    (zbd (some (zgI w 0 12)) fun x15 =>
    if x15 = 38 then
    (some ((-2), w))
    else if x15 = 42 then
    (some ((-8), w))
    else if x15 = 43 then
    (some ((-6), w))
    else if x15 = 45 then
    (some ((-7), w))
    else if x15 = 47 then
    (some ((-9), w))
    else if x15 = 60 then
    (some ((-3), w))
    else if x15 = 61 then
    (some ((-4), w))
    else if x15 = 62 then
    (some ((-5), w))
    else if x15 = 124 then
    (some ((-1), w))
    else 
    (some (0, w)))
    else
    (some (0, w))
noncomputable def fX8_slipped_111 (a1 : Int32) (a2 : Int32) (k47 : Int32 → Int32 → Int32 → Int32 → Int32 → zz_W → Option (Int32 × zz_W)) (l1 : Int32) (l2 : Int32) (l4 : Int32) (l5 : Int32) (l6 : Int32) (s0 : Int32) (w : zz_W) : Option (Int32 × zz_W) :=
    if l6 ≤ l4 then
    (zbd (some (l5 + 1)) fun x28 =>
    k47 l1 l2 s0 l4 x28 w)
    else
    (zbd (some (l5 + 1)) fun x29 =>
    k47 l1 l2 s0 l6 x29 w)
noncomputable def fX8_slipped_47 (a1 : Int32) (a2 : Int32) : Nat → Int32 → Int32 → Int32 → Int32 → Int32 → zz_W → Option (Int32 × zz_W)
  | 0, _, _, _, _, _, _ => none
  | n + 1, l1, l2, l3, l4, l5, w =>
    if 50 ≤ l5 then
    (if l2 = 0 then
    (some (l3, w))
    else
    (some (l4, w)))
    else
    (zbd (zstI w 1 1436 3 l5) fun w32 =>
    zbd (fX8_goesOn l1 w32) fun w33 =>
    zbd (zldI w33 1 1436 12) fun x34 =>
    zbd2 (fX8_of x34 4 w33) fun x35 w36 =>
    zbd2 (fX8_sumOf 4 w36) fun x37 w38 =>
    zbd (zldiv (1000 * (Int32.toInt64 x35)) (Int32.toInt64 x37)) fun x39 =>
    zbd (some (Int64.toInt32 x39)) fun x40 =>
    zbd (fX8_putsBack w38) fun w41 =>
    if x40 ≤ l4 then
    (fX8_slipped_111 a1 a2 (fX8_slipped_47 a1 a2 n) l1 l2 l4 l5 x40 l3 w41)
    else
    (fX8_slipped_111 a1 a2 (fX8_slipped_47 a1 a2 n) l1 l2 l4 l5 x40 l5 w41))
noncomputable def fX8_slipped (a1 : Int32) (a2 : Int32) (w : zz_W) : Option (Int32 × zz_W) :=
  zbd2 (fX8_in a1 1 30 w) fun x43 w44 =>
    if x43 = 0 then
    (some ((-1000000001), w44))
    else
    (zbd2 (fX8_in a2 0 1 w44) fun x46 w47 =>
    if x46 = 0 then
    (some ((-1000000001), w47))
    else
    (zbd (zldI w47 1 1436 12) fun x49 =>
    if 0 ≤ x49 then
    (zbd (fX8_thinks w47) fun w51 =>
    zbd (some (-1)) fun x52 =>
    fX8_slipped_47 a1 a2 zfuel a1 a2 0 x52 0 w51)
    else
    (some ((-1000000002), w47))))
noncomputable def fX8_steps (a1 : Int32) (w : zz_W) : Option (Int32 × zz_W) :=
  zbd2 (fX8_in a1 1 100 w) fun x10 w11 =>
    if x10 = 0 then
    (some ((-1000000001), w11))
    else
    (zbd (zldI w11 1 1436 9) fun x13 =>
    zbd (zldI w11 1 1436 2) fun x14 =>
    zbd2 (fX8_within (9999 - x14) 0 a1 w11) fun x15 w16 =>
    zbd (fX8_goesOn x15 w16) fun w17 =>
    zbd (zldI w17 1 1436 9) fun x18 =>
    some (x18 - x13, w17))
noncomputable def fX8_takesPart_87 (s1 : Int32) (s2 : Int32) (w : zz_W) : Option (Int32 × zz_W) :=
    zbd (zstI w 10 96 s1 s2) fun w27 =>
    zbd (some (zgI w27 0 18)) fun x28 =>
    zbd (some (zsI w27 0 18 (x28 + 1))) fun w29 =>
    zbd (some (zgI w29 0 19)) fun x30 =>
    zbd (some (zsI w29 0 19 (x30 + 1))) fun w31 =>
    zbd (fX8_settle 6 w31) fun w32 =>
    zbd (fX8_go w32) fun w33 =>
    some (1, w33)
noncomputable def fX8_takesPart_52 (w : zz_W) : Option (Int32 × zz_W) :=
    zbd (some (zgI w 0 18)) fun x34 =>
    zbd (some (zgI w 0 11)) fun x35 =>
    if x35 = 2 then
    (zbd (some (zgI w 0 12)) fun x40 =>
    fX8_takesPart_87 x34 x40 w)
    else
    (zbd (some (zgI w 0 12)) fun x37 =>
    zbd2 (fX8_nameOf x37 w) fun x38 w39 =>
    fX8_takesPart_87 x34 (10000 + x38) w39)
noncomputable def fX8_takesPart_37 (s0 : Int32) (w : zz_W) : Option (Int32 × zz_W) :=
    zbd (some (zgI w 0 11)) fun x41 =>
    if x41 = 2 then
    (fX8_takesPart_52 w)
    else
    (if s0 = 0 then
    (some (0, w))
    else
    (fX8_takesPart_52 w))
noncomputable def fX8_takesPart_36 (w : zz_W) : Option (Int32 × zz_W) :=
    fX8_takesPart_37 0 w
noncomputable def fX8_takesPart (w : zz_W) : Option (Int32 × zz_W) :=
  zbd (some (zgI w 0 11)) fun x44 =>
    if x44 = 1 then
    (zbd (some (zgI w 0 9)) fun x46 =>
    zbd (some (zgI w 0 10)) fun x47 =>
    if (x46 - x47) = 1 then
    (zbd (some (zgI w 0 12)) fun x49 =>
    zbd2 (fX8_nameOf x49 w) fun x50 w51 =>
    if x50 < 0 then
    (fX8_takesPart_36 w51)
    else
    (fX8_takesPart_37 1 w51))
    else
    (fX8_takesPart_36 w))
    else
    (fX8_takesPart_36 w)
noncomputable def fX8_takesE_305 (k28 : Int32 → Int32 → Int32 → zz_W → Option (Int32 × zz_W)) (l1 : Int32) (l2 : Int32) (l4 : Int32) (s1 : Int32) (s2 : Int32) (w : zz_W) : Option (Int32 × zz_W) :=
    zbd (zstI w 12 10 s1 (vp_nar .boolean s2)) fun w77 =>
    zbd2 (fX8_rank l4 w77) fun x78 w79 =>
    zbd (fX8_settle x78 w79) fun w80 =>
    zbd (some (zgI w80 0 21)) fun x81 =>
    zbd (zstI w80 11 96 x81 l4) fun w82 =>
    zbd (some (zgI w82 0 21)) fun x83 =>
    zbd (some (zsI w82 0 21 (x83 + 1))) fun w84 =>
    zbd (fX8_go w84) fun w85 =>
    k28 l1 l2 1 w85
noncomputable def fX8_takesE_304 (k28 : Int32 → Int32 → Int32 → zz_W → Option (Int32 × zz_W)) (l1 : Int32) (l2 : Int32) (l4 : Int32) (s1 : Int32) (w : zz_W) : Option (Int32 × zz_W) :=
    fX8_takesE_305 k28 l1 l2 l4 s1 0 w
noncomputable def fX8_takesE_300 (k28 : Int32 → Int32 → Int32 → zz_W → Option (Int32 × zz_W)) (l1 : Int32) (l2 : Int32) (l4 : Int32) (s1 : Int32) (w : zz_W) : Option (Int32 × zz_W) :=
    fX8_takesE_305 k28 l1 l2 l4 s1 1 w
noncomputable def fX8_takesE_268 (k28 : Int32 → Int32 → Int32 → zz_W → Option (Int32 × zz_W)) (l1 : Int32) (l2 : Int32) (l4 : Int32) (w : zz_W) : Option (Int32 × zz_W) :=
    zbd2 (fX8_rank l4 w) fun x86 w87 =>
    if x86 = 3 then
    (fX8_takesE_300 k28 l1 l2 l4 l1 w87)
    else
    (zbd2 (fX8_rank l4 w87) fun x89 w90 =>
    if x89 ≤ 3 then
    (fX8_takesE_304 k28 l1 l2 l4 l1 w90)
    else
    (zbd (zldI w90 12 10 l1) fun x92 =>
    if x92 = 0 then
    (fX8_takesE_304 k28 l1 l2 l4 l1 w90)
    else
    (fX8_takesE_300 k28 l1 l2 l4 l1 w90)))
noncomputable def fX8_takesE_237 (k28 : Int32 → Int32 → Int32 → zz_W → Option (Int32 × zz_W)) (l1 : Int32) (l2 : Int32) (w : zz_W) : Option (Int32 × zz_W) :=
    zbd2 (fX8_signHere w) fun x94 w95 =>
    if x94 = 0 then
    (some (0, w95))
    else
    (zbd2 (fX8_rank x94 w95) fun x97 w98 =>
    if x97 = 3 then
    (zbd (zldI w98 12 10 l1) fun x100 =>
    if x100 = 0 then
    (fX8_takesE_268 k28 l1 l2 x94 w98)
    else
    (some (0, w98)))
    else
    (fX8_takesE_268 k28 l1 l2 x94 w98))
noncomputable def fX8_takesE_172 (k28 : Int32 → Int32 → Int32 → zz_W → Option (Int32 × zz_W)) (l1 : Int32) (l3 : Int32) (w : zz_W) : Option (Int32 × zz_W) :=
    zbd2 (fX8_notsOpen w) fun x102 w103 =>
    k28 l1 x102 l3 w103
noncomputable def fX8_takesE_158 (k28 : Int32 → Int32 → Int32 → zz_W → Option (Int32 × zz_W)) (l1 : Int32) (w : zz_W) : Option (Int32 × zz_W) :=
    zbd2 (fX8_takesPart w) fun x104 w105 =>
    if x104 = 0 then
    (some (0, w105))
    else
    (fX8_takesE_172 k28 l1 0 w105)
noncomputable def fX8_takesE_97 (k28 : Int32 → Int32 → Int32 → zz_W → Option (Int32 × zz_W)) (l1 : Int32) (l3 : Int32) (w : zz_W) : Option (Int32 × zz_W) :=
    zbd (some (zgI w 0 11)) fun x107 =>
    if x107 = 3 then
    (zbd (some (zgI w 0 12)) fun x109 =>
    if x109 = 40 then
    (if 8 ≤ l1 then
    (fX8_takesE_158 k28 l1 w)
    else
    (zbd (some (zgI w 0 21)) fun x112 =>
    zbd (zstI w 11 96 x112 (-11)) fun w113 =>
    zbd (some (zgI w113 0 21)) fun x114 =>
    zbd (some (zsI w113 0 21 (x114 + 1))) fun w115 =>
    zbd (some (l1 + 1)) fun x116 =>
    zbd (zstI w115 12 10 x116 (vp_nar .boolean 0)) fun w117 =>
    zbd (fX8_go w117) fun w118 =>
    fX8_takesE_172 k28 x116 l3 w118))
    else
    (fX8_takesE_158 k28 l1 w))
    else
    (fX8_takesE_158 k28 l1 w)
noncomputable def fX8_takesE_39 (k28 : Int32 → Int32 → Int32 → zz_W → Option (Int32 × zz_W)) (l1 : Int32) (l2 : Int32) (l3 : Int32) (w : zz_W) : Option (Int32 × zz_W) :=
    if l3 = 0 then
    (zbd (some (zgI w 0 11)) fun x120 =>
    if x120 = 3 then
    (zbd (some (zgI w 0 12)) fun x122 =>
    if x122 = 41 then
    (if l1 ≤ 0 then
    (fX8_takesE_237 k28 l1 l2 w)
    else
    (zbd (fX8_settle 0 w) fun w125 =>
    zbd (some (zgI w125 0 21)) fun x126 =>
    zbd (some (zsI w125 0 21 (x126 - 1))) fun w127 =>
    zbd (some (l1 + (-1))) fun x128 =>
    zbd (fX8_settle 6 w127) fun w129 =>
    zbd2 (fX8_notsOpen w129) fun x130 w131 =>
    zbd (fX8_go w131) fun w132 =>
    k28 x128 x130 l3 w132))
    else
    (fX8_takesE_237 k28 l1 l2 w))
    else
    (fX8_takesE_237 k28 l1 l2 w))
    else
    (zbd (some (zgI w 0 11)) fun x133 =>
    if x133 = 3 then
    (zbd (some (zgI w 0 12)) fun x135 =>
    if x135 = 33 then
    (if 8 ≤ l2 then
    (fX8_takesE_97 k28 l1 l3 w)
    else
    (zbd (some (zgI w 0 21)) fun x138 =>
    zbd (zstI w 11 96 x138 (-10)) fun w139 =>
    zbd (some (zgI w139 0 21)) fun x140 =>
    zbd (some (zsI w139 0 21 (x140 + 1))) fun w141 =>
    zbd (some (l2 + 1)) fun x142 =>
    zbd (fX8_go w141) fun w143 =>
    fX8_takesE_172 k28 l1 l3 w143))
    else
    (fX8_takesE_97 k28 l1 l3 w))
    else
    (fX8_takesE_97 k28 l1 l3 w))
noncomputable def fX8_takesE_28 : Nat → Int32 → Int32 → Int32 → zz_W → Option (Int32 × zz_W)
  | 0, _, _, _, _ => none
  | n + 1, l1, l2, l3, w =>
    if l3 = 0 then
    (zbd (some (zgI w 0 11)) fun x145 =>
    if x145 = 0 then
    (zbd (fX8_settle 0 w) fun w147 =>
    if l1 = 0 then
    (some (1, w147))
    else
    (some (0, w147)))
    else
    (fX8_takesE_39 (fX8_takesE_28 n) l1 l2 l3 w))
    else
    (fX8_takesE_39 (fX8_takesE_28 n) l1 l2 l3 w)
noncomputable def fX8_takesE (w : zz_W) : Option (Int32 × zz_W) :=
  zbd (some (zsI w 0 18 0)) fun w149 =>
    zbd (some (zsI w149 0 19 0)) fun w150 =>
    zbd (some (zsI w150 0 21 0)) fun w151 =>
    zbd (zstI w151 12 10 0 (vp_nar .boolean 0)) fun w152 =>
    fX8_takesE_28 zfuel 0 0 1 w152
noncomputable def fX8_takesKey_106 (k12 : Int32 → zz_W → Option (Int32 × zz_W)) (l1 : Int32) (l3 : Int32) (w : zz_W) : Option (Int32 × zz_W) :=
    if l3 = 0 then
    (zbd (some (l1 + 1)) fun x24 =>
    k12 x24 w)
    else
    (zbd (some (zsI w 0 14 l1)) fun w25 =>
    zbd (fX8_go w25) fun w26 =>
    some (1, w26))
noncomputable def fX8_takesKey_55 (k12 : Int32 → zz_W → Option (Int32 × zz_W)) : Nat → Int32 → Int32 → Int32 → Int32 → zz_W → Option (Int32 × zz_W)
  | 0, _, _, _, _, _ => none
  | n + 1, l1, l2, l3, l4, w =>
    if l2 ≤ l4 then
    (fX8_takesKey_106 k12 l1 l3 w)
    else
    (if l3 = 0 then
    (fX8_takesKey_106 k12 l1 l3 w)
    else
    (zbd (some (zgI w 0 10)) fun x29 =>
    zbd (zldI w 7 96 (x29 + l4)) fun x30 =>
    zbd (zldI w 9 4 l1) fun x31 =>
    zbd (zldI w 8 11 (x31 + l4)) fun x32 =>
    if x30 = x32 then
    (zbd (some (l4 + 1)) fun x35 =>
    fX8_takesKey_55 k12 n l1 l2 1 x35 w)
    else
    (zbd (some (l4 + 1)) fun x34 =>
    fX8_takesKey_55 k12 n l1 l2 0 x34 w)))
noncomputable def fX8_takesKey_12 : Nat → Int32 → zz_W → Option (Int32 × zz_W)
  | 0, _, _ => none
  | n + 1, l1, w =>
    if 3 ≤ l1 then
    (some (0, w))
    else
    (zbd (zldI w 9 4 (l1 + 1)) fun x37 =>
    zbd (zldI w 9 4 l1) fun x38 =>
    zbd (some (x37 - x38)) fun x39 =>
    zbd (some (zgI w 0 9)) fun x40 =>
    zbd (some (zgI w 0 10)) fun x41 =>
    if x39 = (x40 - x41) then
    (fX8_takesKey_55 (fX8_takesKey_12 n) zfuel l1 x39 1 0 w)
    else
    (fX8_takesKey_55 (fX8_takesKey_12 n) zfuel l1 x39 0 0 w))
noncomputable def fX8_takesKey (w : zz_W) : Option (Int32 × zz_W) :=
  zbd (some (zgI w 0 11)) fun x43 =>
    if x43 = 1 then
    (fX8_takesKey_12 zfuel 0 w)
    else
    (some (0, w))
noncomputable def fX8_tell (a1 : Int32) (w : zz_W) : Option (Int32 × zz_W) :=
  zbd (some (zgI w 0 34)) fun x8 =>
    if x8 = 60 then
    (some ((-1000000003), w))
    else
    (zbd (some (zgI w 0 34)) fun x10 =>
    zbd (zstI w 23 60 x10 a1) fun w11 =>
    zbd (some (zgI w11 0 34)) fun x12 =>
    zbd (some (zsI w11 0 34 (x12 + 1))) fun w13 =>
    zbd (some (zgI w13 0 34)) fun x14 =>
    some (x14, w13))
noncomputable def fX8_tells (a1 : Int32) (a2 : Int32) (a3 : Int32) (w : zz_W) : Option (Int32 × zz_W) :=
  zbd2 (fX8_isRun a1 w) fun x10 w11 =>
    if x10 = 0 then
    (some ((-1000000001), w11))
    else
    (zbd2 (fX8_isTest a2 a3 w11) fun x13 w14 =>
    if x13 = 0 then
    (some ((-1000000001), w14))
    else
    (zbd2 (fX8_doesTell a1 a2 a3 w14) fun x16 w17 =>
    if x16 = 0 then
    (some (0, w17))
    else
    (some (1, w17))))
noncomputable def fX8_text_117 : Nat → Int32 → Int32 → zz_W → Option (Int32 × zz_W)
  | 0, _, _, _ => none
  | n + 1, l2, l3, w =>
    zbd (some (zgI w 0 18)) fun x28 =>
    if x28 ≤ l3 then
    (zbd (zldI w 1 1436 13) fun x30 =>
    zbd (zstI w 1 1436 13 (x30 + 1)) fun w31 =>
    some (l2, w31))
    else
    (zbd (zldI w 10 96 l3) fun x32 =>
    zbd (zstI w 1 1436 ((92 + (96 * l2)) + l3) x32) fun w33 =>
    zbd (some (l3 + 1)) fun x34 =>
    fX8_text_117 n l2 x34 w33)
noncomputable def fX8_text_33 (s0 : Int32) (w : zz_W) : Option (Int32 × zz_W) :=
    zbd (some (zsI w 0 8 0)) fun w35 =>
    if s0 = 0 then
    (zbd (some (zgI w35 0 10)) fun x45 =>
    some ((-100) - x45, w35))
    else
    (zbd (zldI w35 1 1436 13) fun x37 =>
    if x37 = 14 then
    (some ((-1000000003), w35))
    else
    (zbd (zldI w35 1 1436 13) fun x39 =>
    zbd (some (zgI w35 0 14)) fun x40 =>
    zbd (some (zgI w35 0 18)) fun x41 =>
    zbd (zstI w35 1 1436 (64 + (2 * x39)) ((1000 * x40) + x41)) fun w42 =>
    zbd (some (zgI w42 0 19)) fun x43 =>
    zbd (zstI w42 1 1436 ((64 + (2 * x39)) + 1) x43) fun w44 =>
    fX8_text_117 zfuel x39 0 w44))
noncomputable def fX8_text_32 (w : zz_W) : Option (Int32 × zz_W) :=
    fX8_text_33 0 w
noncomputable def fX8_text (w : zz_W) : Option (Int32 × zz_W) :=
  zbd (some (zsI w 0 9 0)) fun w46 =>
    zbd (some (zsI w46 0 13 (-1))) fun w47 =>
    zbd (fX8_go w47) fun w48 =>
    zbd2 (fX8_takesKey w48) fun x49 w50 =>
    if x49 = 0 then
    (fX8_text_32 w50)
    else
    (zbd2 (fX8_takesE w50) fun x52 w53 =>
    if x52 = 0 then
    (fX8_text_32 w53)
    else
    (fX8_text_33 1 w53))
noncomputable def fX8_textTold (a1 : Int32) (a2 : Int32) (w : zz_W) : Option (Int32 × zz_W) :=
  zbd (zldI w 1 1436 13) fun x12 =>
    zbd2 (fX8_in a1 0 (x12 - 1) w) fun x13 w14 =>
    if x13 = 0 then
    (some ((-1000000001), w14))
    else
    (zbd2 (fX8_in a2 0 1 w14) fun x16 w17 =>
    if x16 = 0 then
    (some ((-1000000001), w17))
    else
    (if a2 = 0 then
    (zbd (zldI w17 1 1436 (64 + (2 * a1))) fun x21 =>
    zbd (zdiv x21 1000) fun x22 =>
    some (x22, w17))
    else
    (zbd (zldI w17 1 1436 ((64 + (2 * a1)) + 1)) fun x20 =>
    some (x20, w17))))
noncomputable def fX8_told (a1 : Int32) (a2 : Int32) (w : zz_W) : Option (Int32 × zz_W) :=
  zbd2 (fX8_isRun a1 w) fun x28 w29 =>
    if x28 = 0 then
    (some ((-1000000001), w29))
    else
    (if a2 = 0 then
    (zbd2 (fX8_of a1 a2 w29) fun x31 w32 =>
    some (x31, w32))
    else if a2 = 1 then
    (zbd2 (fX8_of a1 a2 w29) fun x34 w35 =>
    some (x34, w35))
    else if a2 = 2 then
    (zbd2 (fX8_of a1 a2 w29) fun x37 w38 =>
    some (x37, w38))
    else if a2 = 3 then
    (zbd2 (fX8_of a1 a2 w29) fun x40 w41 =>
    some (x40, w41))
    else if a2 = 4 then
    (zbd2 (fX8_of a1 a2 w29) fun x43 w44 =>
    some (x43, w44))
    else if a2 = 5 then
    (zbd2 (fX8_hurtBy a1 w29) fun x46 w47 =>
    some (x46, w47))
    else if a2 = 6 then
    (zbd2 (fX8_manyPassed a1 w29) fun x49 w50 =>
    some (x49, w50))
    else if a2 = 7 then
    (zbd2 (fX8_worthOf a1 w29) fun x52 w53 =>
    some (x52, w53))
    else 
    (some ((-1000000001), w29)))
noncomputable def fX8_trim (a1 : Int32) (w : zz_W) : Option (Int32 × zz_W) :=
  zbd (some (zgI w 0 8)) fun x6 =>
    zbd2 (fX8_in a1 0 x6 w) fun x7 w8 =>
    if x7 = 0 then
    (some ((-1000000001), w8))
    else
    (zbd (some (zsI w8 0 8 a1)) fun w10 =>
    some (a1, w10))
noncomputable def fX8_turns (a1 : Int32) (a2 : Int32) (w : zz_W) : Option (Int32 × zz_W) :=
  zbd2 (fX8_isRun a1 w) fun x9 w10 =>
    if x9 = 0 then
    (some ((-1000000001), w10))
    else
    (zbd2 (fX8_in a2 0 5 w10) fun x12 w13 =>
    if x12 = 0 then
    (some ((-1000000001), w13))
    else
    (zbd2 (fX8_becomes (14 + (5 * a1)) a2 w13) fun x15 w16 =>
    some (x15, w16)))
noncomputable def fX8_when_29 (l1 : Int32) (w : zz_W) : Option (Int32 × zz_W) :=
    zbd (fX8_putsBack w) fun w10 =>
    if l1 ≤ 100 then
    (some (l1, w10))
    else
    (some ((-1000000005), w10))
noncomputable def fX8_when_6 : Nat → Int32 → zz_W → Option (Int32 × zz_W)
  | 0, _, _ => none
  | n + 1, l1, w =>
    if 100 < l1 then
    (fX8_when_29 l1 w)
    else
    (zbd2 (fX8_isKnown w) fun x13 w14 =>
    if x13 = 0 then
    (zbd (fX8_step w14) fun w16 =>
    zbd (some (l1 + 1)) fun x17 =>
    fX8_when_6 n x17 w16)
    else
    (fX8_when_29 l1 w14))
noncomputable def fX8_when (w : zz_W) : Option (Int32 × zz_W) :=
  zbd (fX8_thinks w) fun w18 =>
    fX8_when_6 zfuel 0 w18
noncomputable def fX8_where (a1 : Int32) (a2 : Int32) (a3 : Int32) (w : zz_W) : Option (Int32 × zz_W) :=
  zbd2 (fX8_isSheet a1 w) fun x21 w22 =>
    if x21 = 0 then
    (some ((-1000000001), w22))
    else
    (zbd2 (fX8_in a2 1 9 w22) fun x24 w25 =>
    if x24 = 0 then
    (some ((-1000000001), w25))
    else
    (zbd2 (fX8_in a3 0 1 w25) fun x27 w28 =>
    if x27 = 0 then
    (some ((-1000000001), w28))
    else
    (zbd (zldI w28 15 4 a1) fun x30 =>
    if 0 ≤ x30 then
    (zbd (fX8_weighsAll w28) fun w32 =>
    zbd2 (fX8_leastOf a1 a2 w32) fun x33 w34 =>
    if x33 < 0 then
    (some ((-1000000005), w34))
    else
    (zbd (zldI w34 1 1436 1) fun x36 =>
    if x36 = 0 then
    (some ((-1000000005), w34))
    else
    (if a3 = 0 then
    (some (x33, w34))
    else
    (zbd2 (fX8_riskAt x33 a2 w34) fun x39 w40 =>
    some (x39, w40)))))
    else
    (some ((-1000000011), w28)))))
noncomputable def fX8_why (a1 : Int32) (w : zz_W) : Option (Int32 × zz_W) :=
  zbd2 (fX8_in a1 0 2 w) fun x7 w8 =>
    if x7 = 0 then
    (some ((-1000000001), w8))
    else
    (zbd2 (fX8_counts a1 w8) fun x10 w11 =>
    if 0 ≤ x10 then
    (some (x10, w11))
    else
    (some ((-1000000005), w11)))
noncomputable def fX8_worthiest_101 (a1 : Int32) (a2 : Int32) (a3 : Int32) (k61 : Int32 → Int32 → Int32 → Int32 → Int32 → Int32 → zz_W → Option (Int32 × zz_W)) (l1 : Int32) (l2 : Int32) (l3 : Int32) (l5 : Int32) (l6 : Int32) (l7 : Int32) (s0 : Int32) (w : zz_W) : Option (Int32 × zz_W) :=
    if l7 ≤ l5 then
    (zbd (some (l6 + 1)) fun x30 =>
    k61 l1 l2 l3 s0 l5 x30 w)
    else
    (zbd (some (l6 + 1)) fun x31 =>
    k61 l1 l2 l3 s0 l7 x31 w)
noncomputable def fX8_worthiest_61 (a1 : Int32) (a2 : Int32) (a3 : Int32) : Nat → Int32 → Int32 → Int32 → Int32 → Int32 → Int32 → zz_W → Option (Int32 × zz_W)
  | 0, _, _, _, _, _, _, _ => none
  | n + 1, l1, l2, l3, l4, l5, l6, w =>
    if 144 ≤ l6 then
    (if l3 = 0 then
    (zbd (zdiv l4 36) fun x36 =>
    some (x36, w))
    else
    (if l3 = 1 then
    (zbd (zrem l4 36) fun x35 =>
    some (x35, w))
    else
    (some (l5, w))))
    else
    (zbd (zdiv l6 36) fun x37 =>
    zbd (zrem l6 36) fun x38 =>
    zbd2 (fX8_learnOf x37 x38 l1 l2 w) fun x39 w40 =>
    if x39 ≤ l5 then
    (fX8_worthiest_101 a1 a2 a3 (fX8_worthiest_61 a1 a2 a3 n) l1 l2 l3 l5 l6 x39 l4 w40)
    else
    (fX8_worthiest_101 a1 a2 a3 (fX8_worthiest_61 a1 a2 a3 n) l1 l2 l3 l5 l6 x39 l6 w40))
noncomputable def fX8_worthiest (a1 : Int32) (a2 : Int32) (a3 : Int32) (w : zz_W) : Option (Int32 × zz_W) :=
  zbd2 (fX8_isSheet a1 w) fun x42 w43 =>
    if x42 = 0 then
    (some ((-1000000001), w43))
    else
    (zbd2 (fX8_in a2 1 9 w43) fun x45 w46 =>
    if x45 = 0 then
    (some ((-1000000001), w46))
    else
    (zbd2 (fX8_in a3 0 2 w46) fun x48 w49 =>
    if x48 = 0 then
    (some ((-1000000001), w49))
    else
    (zbd (zldI w49 15 4 a1) fun x51 =>
    if 0 ≤ x51 then
    (zbd2 (fX8_isWished a1 w49) fun x53 w54 =>
    if x53 = 0 then
    (some ((-1000000005), w54))
    else
    (zbd (some (-1)) fun x56 =>
    fX8_worthiest_61 a1 a2 a3 zfuel a1 a2 a3 0 x56 0 w54))
    else
    (some ((-1000000011), w49)))))
