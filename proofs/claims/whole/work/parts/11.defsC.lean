noncomputable def fX0_along_5 (a1 : Int32) (a2 : Int32) : Nat → Int32 → Int64 → Int32 → zz_W → Option (Int64 × zz_W)
  | 0, _, _, _, _ => none
  | n + 1, l0, l2, l4, w =>
    if 6 ≤ l4 then
    (some (l2, w))
    else
    (zbd (some (l2 ||| ((1 : Int64) <<< (Int32.toInt64 ((l0 * 6) + l4) &&& 63)))) fun x5 =>
    zbd (some (l4 + 1)) fun x6 =>
    fX0_along_5 a1 a2 n l0 x5 x6 w)
noncomputable def fX0_along (a1 : Int32) (a2 : Int32) (w : zz_W) : Option (Int64 × zz_W) :=
  fX0_along_5 a1 a2 zfuel a1 0 a2 w
noncomputable def fX0_slanted_5 (a1 : Int32) (a2 : Int32) : Nat → Int32 → Int32 → Int64 → Int32 → zz_W → Option (Int64 × zz_W)
  | 0, _, _, _, _, _ => none
  | n + 1, l0, l1, l2, l4, w =>
    if 6 ≤ l4 then
    (some (l2, w))
    else
    (zbd (some (l2 ||| ((1 : Int64) <<< (Int32.toInt64 ((l4 * 6) + (zmin 5 ((l1 + l4) - l0))) &&& 63)))) fun x5 =>
    zbd (some (l4 + 1)) fun x6 =>
    fX0_slanted_5 a1 a2 n l0 l1 x5 x6 w)
noncomputable def fX0_slanted (a1 : Int32) (a2 : Int32) (w : zz_W) : Option (Int64 × zz_W) :=
  fX0_slanted_5 a1 a2 zfuel a1 a2 0 a1 w
noncomputable def fX0_upwards_5 (a1 : Int32) (a2 : Int32) : Nat → Int32 → Int64 → Int32 → zz_W → Option (Int64 × zz_W)
  | 0, _, _, _, _ => none
  | n + 1, l1, l2, l4, w =>
    if 6 ≤ l4 then
    (some (l2, w))
    else
    (zbd (some (l2 ||| ((1 : Int64) <<< (Int32.toInt64 ((l4 * 6) + l1) &&& 63)))) fun x5 =>
    zbd (some (l4 + 1)) fun x6 =>
    fX0_upwards_5 a1 a2 n l1 x5 x6 w)
noncomputable def fX0_upwards (a1 : Int32) (a2 : Int32) (w : zz_W) : Option (Int64 × zz_W) :=
  fX0_upwards_5 a1 a2 zfuel a2 0 a1 w
noncomputable def fX0_cellsOf (a1 : Int32) (a2 : Int32) (w : zz_W) : Option (Int64 × zz_W) :=
  zbd (zdiv a2 6) fun x22 =>
    zbd (zrem a2 6) fun x23 =>
    if a1 = 2 then
    (zbd2 (fX0_along x22 x23 w) fun x24 w25 =>
    some (x24, w25))
    else if a1 = 3 then
    (zbd2 (fX0_slanted x22 x23 w) fun x27 w28 =>
    some (x27, w28))
    else if a1 = 4 then
    (zbd2 (fX0_along x22 x23 w) fun x30 w31 =>
    zbd2 (fX0_upwards (x22 + 1) 5 w31) fun x32 w33 =>
    some (x30 ||| x32, w33))
    else if a1 = 5 then
    (zbd2 (fX0_upwards 0 x23 w) fun x35 w36 =>
    zbd (zrem (x23 + 3) 6) fun x37 =>
    zbd2 (fX0_upwards 0 x37 w36) fun x38 w39 =>
    some (x35 ||| x38, w39))
    else 
    (zbd2 (fX0_upwards x22 x23 w) fun x41 w42 =>
    some (x41, w42))
noncomputable def fX0_cellsTold_15 (a1 : Int32) (a2 : Int32) (a3 : Int32) (a4 : Int64) (l0 : Int32) (l1 : Int32) (l2 : Int32) (l3 : Int64) (s0 : Int32) (w : zz_W) : Option (Int64 × zz_W) :=
    if l2 = 0 then
    (if l0 = 5 then
    (some (l3, w))
    else
    (if s0 = 0 then
    (some (0, w))
    else
    (if 3 < l1 then
    (some (0, w))
    else
    (some (l3, w)))))
    else if l2 = 1 then
    (if l0 = 5 then
    (some (l3 &&& 1057222719, w))
    else
    (if s0 = 0 then
    (some (l3, w))
    else
    (if l1 ≤ 6 then
    (some (l3, w))
    else
    (some (0, w)))))
    else if l2 = 2 then
    (if s0 = 0 then
    (some (0, w))
    else
    (some (l3, w)))
    else 
    (some (l3, w))
noncomputable def fX0_cellsTold_10 (a1 : Int32) (a2 : Int32) (a3 : Int32) (a4 : Int64) (l0 : Int32) (l1 : Int32) (l2 : Int32) (l3 : Int64) (w : zz_W) : Option (Int64 × zz_W) :=
    fX0_cellsTold_15 a1 a2 a3 a4 l0 l1 l2 l3 1 w
noncomputable def fX0_cellsTold (a1 : Int32) (a2 : Int32) (a3 : Int32) (a4 : Int64) (w : zz_W) : Option (Int64 × zz_W) :=
  if a1 = 2 then
    (fX0_cellsTold_10 a1 a2 a3 a4 a1 a2 a3 a4 w)
    else
    (if a1 = 4 then
    (fX0_cellsTold_10 a1 a2 a3 a4 a1 a2 a3 a4 w)
    else
    (fX0_cellsTold_15 a1 a2 a3 a4 a1 a2 a3 a4 0 w))
noncomputable def fX0_columnsIn (a1 : Int64) (a2 : Int32) (w : zz_W) : Option (Int32 × zz_W) :=
  some (Int64.toInt32 (((a1.toUInt64 >>> ((Int32.toInt64 (a2 * 6)).toUInt64 &&& Int64.toUInt64 63)).toInt64) &&& 63), w)
noncomputable def fX0_has (a1 : Int64) (a2 : Int32) (w : zz_W) : Option (Int32 × zz_W) :=
  if (lg_cmp (((a1.toUInt64 >>> ((Int32.toInt64 a2).toUInt64 &&& Int64.toUInt64 63)).toInt64) &&& 1) 0) = 0 then
    (some (0, w))
    else
    (some (1, w))
noncomputable def fX0_hurtOf (a1 : Int32) (a2 : Int32) (w : zz_W) : Option (Int32 × zz_W) :=
  if a1 = 1 then
    (some (2 * a2, w))
    else if a1 = 2 then
    (some (a2 + 9, w))
    else if a1 = 3 then
    (some ((2 * a2) + 1, w))
    else if a1 = 4 then
    (some (zmax 0 (a2 + 7), w))
    else if a1 = 5 then
    (some (1, w))
    else 
    (some (a2, w))
noncomputable def fX7_within (a1 : Int32) (a2 : Int32) (a3 : Int32) (w : zz_W) : Option (Int32 × zz_W) :=
  if a1 < a2 then
    (some (0, w))
    else
    (if a3 < a1 then
    (some (0, w))
    else
    (some (1, w)))
noncomputable def fX7_isKind (a1 : Int32) (w : zz_W) : Option (Int32 × zz_W) :=
  zbd2 (fX7_within a1 0 5 w) fun x4 w5 =>
    zbd (zboo x4) fun x6 =>
    some (x6, w5)
noncomputable def fX0_isUnder_4 (a1 : Int32) (a2 : Int32) : Nat → Int32 → Int32 → Int32 → zz_W → Option (Int32 × zz_W)
  | 0, _, _, _, _ => none
  | n + 1, l1, l2, l3, w =>
    if 6 ≤ l3 then
    (some (0, w))
    else
    (zbd2 (fX7_isKind l2 w) fun x9 w10 =>
    if x9 = 0 then
    (some (0, w10))
    else
    (if l2 = l1 then
    (some (1, w10))
    else
    (zbd (zldF zABOVE 6 l2) fun x13 =>
    zbd (some (l3 + 1)) fun x14 =>
    fX0_isUnder_4 a1 a2 n l1 x13 x14 w10)))
noncomputable def fX0_isUnder (a1 : Int32) (a2 : Int32) (w : zz_W) : Option (Int32 × zz_W) :=
  fX0_isUnder_4 a1 a2 zfuel a2 a1 0 w
noncomputable def fX0_worthOf (a1 : Int32) (a2 : Int32) (w : zz_W) : Option (Int32 × zz_W) :=
  if a1 = 1 then
    (some (a2 + 9, w))
    else if a1 = 2 then
    (some (99 - a2, w))
    else if a1 = 3 then
    (some (2 * (a2 + 9), w))
    else if a1 = 4 then
    (some (94 - a2, w))
    else if a1 = 5 then
    (some (2, w))
    else 
    (some (a2, w))
noncomputable def fX1_bestCell (w : zz_W) : Option (Int32 × zz_W) :=
  zbd (some (zgI w 31 9)) fun x3 =>
    zbd (zldI w 32 24 x3) fun x4 =>
    some (x4, w)
noncomputable def fX1_leastLoss (w : zz_W) : Option (Int64 × zz_W) :=
  zbd (some (zgI w 31 9)) fun x3 =>
    zbd (zldL w 33 24 x3) fun x4 =>
    some (x4, w)
noncomputable def fX1_lossOf_5 (a1 : Nat) (a2 : Nat) (a3 : Int32) : Nat → Int32 → Int64 → Int32 → zz_W → Option (Int64 × zz_W)
  | 0, _, _, _, _ => none
  | n + 1, l2, l3, l5, w =>
    zbd (some (zgI w a1 9)) fun x11 =>
    if x11 ≤ l5 then
    (some (l3, w))
    else
    (zbd (zldL w (a1 + 6) 10 l5) fun x13 =>
    zbd2 (fX0_has x13 l2 w) fun x14 w15 =>
    if x14 = 0 then
    (zbd (some (l5 + 1)) fun x17 =>
    fX1_lossOf_5 a1 a2 a3 n l2 l3 x17 w15)
    else
    (zbd (zldL w15 a2 10 l5) fun x18 =>
    zbd (some (l3 + x18)) fun x19 =>
    zbd (some (l5 + 1)) fun x20 =>
    fX1_lossOf_5 a1 a2 a3 n l2 x19 x20 w15))
noncomputable def fX1_lossOf (a1 : Nat) (a2 : Nat) (a3 : Int32) (w : zz_W) : Option (Int64 × zz_W) :=
  zgrd (zisW a1) <|
  zgrd (zisX a2 (.inl (1, 10))) <|
  fX1_lossOf_5 a1 a2 a3 zfuel a3 0 0 w
noncomputable def fX6_ofHundred_13 (b : Nat) (a1 : Int32) (a2 : Int32) (l2 : Int32) (s0 : Int32) (w : zz_W) : Option (Int32 × zz_W) :=
    if l2 = 0 then
    (some (s0, w))
    else
    (some (100 - s0, w))
noncomputable def fX6_ofHundred (b : Nat) (a1 : Int32) (a2 : Int32) (w : zz_W) : Option (Int32 × zz_W) :=
  zgrd (zisW b) <|
  if a1 = 3 then
    (fX6_ofHundred_13 b a1 a2 a2 0 w)
    else
    (zbd (some (zgI w b 11)) fun x6 =>
    fX6_ofHundred_13 b a1 a2 a2 x6 w)
noncomputable def fX6_wouldTell (b : Nat) (a1 : Int32) (a2 : Int32) (a3 : Int32) (w : zz_W) : Option (Int32 × zz_W) :=
  zgrd (zisW b) <|
  zbd (zldI w (b + 1) 10 a1) fun x9 =>
    zbd (zldI w (b + 4) 10 a1) fun x10 =>
    zbd (zldL w (b + 6) 10 a1) fun x11 =>
    zbd2 (fX0_cellsTold x9 x10 a2 x11 w) fun x12 w13 =>
    zbd2 (fX0_has x12 a3 w13) fun x14 w15 =>
    if x14 = 0 then
    (some (0, w15))
    else
    (some (1, w15))
noncomputable def fX1_shareOut_58 (a1 : Nat) (a2 : Int32) (a3 : Int32) (k6 : Int32 → Int32 → Int32 → Int32 → zz_W → Option (Int32 × zz_W)) (l2 : Int32) (l3 : Int32) (l4 : Int32) (l5 : Int32) (s1 : Int32) (s2 : Int64) (s4 : Int32) (s5 : Int32) (w : zz_W) : Option (Int32 × zz_W) :=
    zbd2 (fX6_ofHundred a1 s4 s5 w) fun x15 w16 =>
    zbd (zstL w16 35 10 s1 (s2 * (Int32.toInt64 x15))) fun w17 =>
    zbd (some (l5 + 1)) fun x18 =>
    k6 l2 l3 l4 x18 w17
noncomputable def fX1_shareOut_6 (a1 : Nat) (a2 : Int32) (a3 : Int32) : Nat → Int32 → Int32 → Int32 → Int32 → zz_W → Option (Int32 × zz_W)
  | 0, _, _, _, _, _ => none
  | n + 1, l2, l3, l4, l5, w =>
    zbd (some (zgI w a1 9)) fun x19 =>
    if x19 ≤ l5 then
    (if l4 ≤ 0 then
    (some (0, w))
    else
    (zbd (some (zgI w a1 9)) fun x22 =>
    if x22 ≤ l4 then
    (some (0, w))
    else
    (some (1, w))))
    else
    (zbd2 (fX6_wouldTell a1 l5 l2 l3 w) fun x24 w25 =>
    zbd (some (l4 + x24)) fun x26 =>
    zbd (zldL w25 34 10 l5) fun x27 =>
    if x24 = 1 then
    (fX1_shareOut_58 a1 a2 a3 (fX1_shareOut_6 a1 a2 a3 n) l2 l3 x26 l5 l5 x27 l2 1 w25)
    else
    (fX1_shareOut_58 a1 a2 a3 (fX1_shareOut_6 a1 a2 a3 n) l2 l3 x26 l5 l5 x27 l2 0 w25))
noncomputable def fX1_shareOut (a1 : Nat) (a2 : Int32) (a3 : Int32) (w : zz_W) : Option (Int32 × zz_W) :=
  zgrd (zisW a1) <|
  fX1_shareOut_6 a1 a2 a3 zfuel a2 a3 0 0 w
noncomputable def fX1_learnBy_89 (a1 : Nat) (a2 : Int32) (a3 : Int32) (k30 : Int64 → Int64 → Int32 → zz_W → Option (Int32 × zz_W)) (l6 : Int64) (l8 : Int32) (l11 : Int64) (s0 : Int64) (w : zz_W) : Option (Int32 × zz_W) :=
    if l8 = 0 then
    (zbd (some (l8 + 1)) fun x25 =>
    k30 s0 l11 x25 w)
    else
    (zbd (some (zminL l6 l11)) fun x23 =>
    zbd (some (l8 + 1)) fun x24 =>
    k30 s0 x23 x24 w)
noncomputable def fX1_learnBy_30 (a1 : Nat) (a2 : Int32) (a3 : Int32) : Nat → Int64 → Int64 → Int32 → zz_W → Option (Int32 × zz_W)
  | 0, _, _, _, _ => none
  | n + 1, l4, l6, l8, w =>
    zbd (some (zgI w 31 0)) fun x26 =>
    if x26 ≤ l8 then
    (zbd2 (fX1_leastLoss w) fun x28 w29 =>
    zbd (some (zgL w29 31 8)) fun x30 =>
    zbd (zldiv (1000 * (((100 * x28) - l4) - l6)) (100 * x30)) fun x31 =>
    some (Int64.toInt32 x31, w29))
    else
    (zbd (zldI w 32 24 l8) fun x32 =>
    zbd2 (fX1_lossOf a1 35 x32 w) fun x33 w34 =>
    zbd (zldL w34 33 24 l8) fun x35 =>
    zbd (some ((100 * x35) - x33)) fun x36 =>
    if l8 = 0 then
    (fX1_learnBy_89 a1 a2 a3 (fX1_learnBy_30 a1 a2 a3 n) l6 l8 x36 x33 w34)
    else
    (fX1_learnBy_89 a1 a2 a3 (fX1_learnBy_30 a1 a2 a3 n) l6 l8 x36 (zminL l4 x33) w34))
noncomputable def fX1_learnBy (a1 : Nat) (a2 : Int32) (a3 : Int32) (w : zz_W) : Option (Int32 × zz_W) :=
  zgrd (zisW a1) <|
  zbd (some (zgL w 31 8)) fun x38 =>
    if (lg_cmp x38 0) ≤ 0 then
    (some (0, w))
    else
    (zbd2 (fX1_shareOut a1 a2 a3 w) fun x40 w41 =>
    if x40 = 0 then
    (some (0, w41))
    else
    (fX1_learnBy_30 a1 a2 a3 zfuel 0 0 0 w41))
noncomputable def fX1_findWorthiest_14 (a1 : Nat) (k7 : Int32 → zz_W → Option (zz_W)) : Nat → Int32 → Int32 → zz_W → Option (zz_W)
  | 0, _, _, _ => none
  | n + 1, l2, l3, w =>
    if 36 ≤ l3 then
    (zbd (some (l2 + 1)) fun x15 =>
    k7 x15 w)
    else
    (zbd2 (fX1_learnBy a1 l2 l3 w) fun x16 w17 =>
    zbd (some (zgI w17 31 3)) fun x18 =>
    if x16 ≤ x18 then
    (zbd (some (l3 + 1)) fun x20 =>
    fX1_findWorthiest_14 a1 k7 n l2 x20 w17)
    else
    (zbd (some (zsI w17 31 1 l2)) fun w21 =>
    zbd (some (zsI w21 31 2 l3)) fun w22 =>
    zbd (some (zsI w22 31 3 x16)) fun w23 =>
    zbd (some (l3 + 1)) fun x24 =>
    fX1_findWorthiest_14 a1 k7 n l2 x24 w23))
noncomputable def fX1_findWorthiest_7 (a1 : Nat) : Nat → Int32 → zz_W → Option (zz_W)
  | 0, _, _ => none
  | n + 1, l2, w =>
    if 4 ≤ l2 then
    (some w)
    else
    (fX1_findWorthiest_14 a1 (fX1_findWorthiest_7 a1 n) zfuel l2 0 w)
noncomputable def fX1_findWorthiest (a1 : Nat) (w : zz_W) : Option (zz_W) :=
  zgrd (zisW a1) <|
  zbd (some (zsI w 31 3 (-1))) fun w26 =>
    fX1_findWorthiest_7 a1 zfuel 0 w26
noncomputable def fX6_allOdds_4 (b : Nat) : Nat → Int64 → Int32 → zz_W → Option (Int64 × zz_W)
  | 0, _, _, _ => none
  | n + 1, l1, l3, w =>
    zbd (some (zgI w b 9)) fun x6 =>
    if x6 ≤ l3 then
    (some (l1, w))
    else
    (zbd (zldI w (b + 5) 10 l3) fun x8 =>
    zbd (some (l1 + (Int32.toInt64 x8))) fun x9 =>
    zbd (some (l3 + 1)) fun x10 =>
    fX6_allOdds_4 b n x9 x10 w)
noncomputable def fX6_allOdds (b : Nat) (w : zz_W) : Option (Int64 × zz_W) :=
  zgrd (zisW b) <|
  fX6_allOdds_4 b zfuel 0 0 w
noncomputable def fX5_joined (a1 : Int32) (a2 : Int32) (a3 : Int32) (w : zz_W) : Option (Int32 × zz_W) :=
  if a1 = 38 then
    (if a2 = 0 then
    (some (0, w))
    else
    (if a3 = 0 then
    (some (0, w))
    else
    (some (1, w))))
    else if a1 = 42 then
    (some (a2 * a3, w))
    else if a1 = 43 then
    (some (a2 + a3, w))
    else if a1 = 45 then
    (some (a2 - a3, w))
    else if a1 = 60 then
    (if a3 ≤ a2 then
    (some (0, w))
    else
    (some (1, w)))
    else if a1 = 61 then
    (if a2 = a3 then
    (some (1, w))
    else
    (some (0, w)))
    else if a1 = 62 then
    (if a2 ≤ a3 then
    (some (0, w))
    else
    (some (1, w)))
    else if a1 = 124 then
    (if a2 = 0 then
    (if a3 = 0 then
    (some (0, w))
    else
    (some (1, w)))
    else
    (some (1, w)))
    else 
    (if a3 = 0 then
    (some (0, w))
    else
    (zbd (zdiv a2 a3) fun x34 =>
    some (x34, w)))
noncomputable def fX5_named (a1 : Int32) (a2 : Int32) (a3 : Int32) (a4 : Int32) (w : zz_W) : Option (Int32 × zz_W) :=
  if a1 = 0 then
    (some (a2, w))
    else
    (if a1 = 1 then
    (some (a3, w))
    else
    (some (a4, w)))
noncomputable def fX5_valueOf_113 (q : Nat) (a1 : Int32) (a2 : Int32) (a3 : Int32) (k6 : Int32 → Int32 → Int32 → Int32 → Int32 → zz_W → Option (Int32 × zz_W)) (l1 : Int32) (l2 : Int32) (l3 : Int32) (l4 : Int32) (l5 : Int32) (s1 : Int32) (s2 : Int32) (w : zz_W) : Option (Int32 × zz_W) :=
    zgrd (zisT w.2.2.2 q) <|
    zbd (zstI w (q + 2) (w.2.2.2.2 q) s1 s2) fun w35 =>
    zbd (some (l5 + 1)) fun x36 =>
    k6 l1 l2 l3 l4 x36 w35
noncomputable def fX5_valueOf_69 (q : Nat) (a1 : Int32) (a2 : Int32) (a3 : Int32) (k6 : Int32 → Int32 → Int32 → Int32 → Int32 → zz_W → Option (Int32 × zz_W)) (l1 : Int32) (l2 : Int32) (l3 : Int32) (l4 : Int32) (l5 : Int32) (s1 : Int32) (s2 : Int32) (w : zz_W) : Option (Int32 × zz_W) :=
    zgrd (zisT w.2.2.2 q) <|
    zbd (zstI w (q + 2) (w.2.2.2.2 q) s1 s2) fun w38 =>
    zbd (some (l4 + 1)) fun x39 =>
    zbd (some (l5 + 1)) fun x40 =>
    k6 l1 l2 l3 x39 x40 w38
noncomputable def fX5_valueOf_6 (q : Nat) (a1 : Int32) (a2 : Int32) (a3 : Int32) : Nat → Int32 → Int32 → Int32 → Int32 → Int32 → zz_W → Option (Int32 × zz_W)
  | 0, _, _, _, _, _, _ => none
  | n + 1, l1, l2, l3, l4, l5, w =>
    zgrd (zisT w.2.2.2 q) <|
    if (Int32.ofNat (w.2.2.2.2 q)) ≤ l5 then
    (if l4 ≤ 0 then
    (some (0, w))
    else
    (zbd (zldI w (q + 2) (w.2.2.2.2 q) 0) fun x44 =>
    some (x44, w)))
    else
    (zbd (zldI w (q + 1) (w.2.2.2.2 q) l5) fun x45 =>
    if x45 < (-3) then
    (if x45 = (-33) then
    (if l4 ≤ 0 then
    (zbd (some (l5 + 1)) fun x59 =>
    fX5_valueOf_6 q a1 a2 a3 n l1 l2 l3 l4 x59 w)
    else
    (zbd (zldI w (q + 2) (w.2.2.2.2 q) (l4 - 1)) fun x60 =>
    if x60 = 0 then
    (fX5_valueOf_113 q a1 a2 a3 (fX5_valueOf_6 q a1 a2 a3 n) l1 l2 l3 l4 l5 (l4 - 1) 1 w)
    else
    (fX5_valueOf_113 q a1 a2 a3 (fX5_valueOf_6 q a1 a2 a3 n) l1 l2 l3 l4 l5 (l4 - 1) 0 w)))
    else
    (if l4 ≤ 1 then
    (zbd (some (l5 + 1)) fun x49 =>
    fX5_valueOf_6 q a1 a2 a3 n l1 l2 l3 l4 x49 w)
    else
    (zbd (some (l4 + (-1))) fun x50 =>
    zbd (zldI w (q + 2) (w.2.2.2.2 q) (x50 - 1)) fun x51 =>
    zbd (zldI w (q + 2) (w.2.2.2.2 q) x50) fun x52 =>
    zbd2 (fX5_joined (-x45) x51 x52 w) fun x53 w54 =>
    zgrd (zisT w54.2.2.2 q) <|
    zbd (zstI w54 (q + 2) (w54.2.2.2.2 q) (x50 - 1) x53) fun w56 =>
    zbd (some (l5 + 1)) fun x57 =>
    fX5_valueOf_6 q a1 a2 a3 n l1 l2 l3 x50 x57 w56)))
    else
    (if (Int32.ofNat (w.2.2.2.2 q)) ≤ l4 then
    (zbd (some (l5 + 1)) fun x63 =>
    fX5_valueOf_6 q a1 a2 a3 n l1 l2 l3 l4 x63 w)
    else
    (if x45 < 0 then
    (zbd2 (fX5_named (x45 - (-3)) l1 l2 l3 w) fun x65 w66 =>
    fX5_valueOf_69 q a1 a2 a3 (fX5_valueOf_6 q a1 a2 a3 n) l1 l2 l3 l4 l5 l4 x65 w66)
    else
    (fX5_valueOf_69 q a1 a2 a3 (fX5_valueOf_6 q a1 a2 a3 n) l1 l2 l3 l4 l5 l4 x45 w))))
noncomputable def fX5_valueOf (q : Nat) (a1 : Int32) (a2 : Int32) (a3 : Int32) (w : zz_W) : Option (Int32 × zz_W) :=
  zgrd (zisT w.2.2.2 q) <|
  fX5_valueOf_6 q a1 a2 a3 zfuel a1 a2 a3 0 0 w
noncomputable def fX6_lawOr (b : Nat) (a1 : Int32) (a2 : Int32) (a3 : Int32) (a4 : Int32) (a5 : Int32) (w : zz_W) : Option (Int32 × zz_W) :=
  zgrd (zisW b) <|
  zbd (zldI w (b + 9) 3 a2) fun x13 =>
    zbd (some (zgI w b 15)) fun x14 =>
    zbd2 (fX7_within x13 0 (x14 - 1) w) fun x15 w16 =>
    if x15 = 0 then
    (some (a1, w16))
    else
    (zbd (zldR w16 (b + 8) 14 x13) fun o18 =>
    zopt o18
    (some (a1, w16))
    (fun q19 => zbd (zldR w16 (b + 8) 14 x13) fun o20 =>
    zopt o20
    (none)
    (fun q21 => zgrd (zisT w16.2.2.2 q21) <|
    zbd2 (fX5_valueOf q21 a3 a4 a5 w16) fun x23 w24 =>
    some (x23, w24))))
noncomputable def fX7_held (a1 : Int32) (a2 : Int32) (a3 : Int32) (w : zz_W) : Option (Int32 × zz_W) :=
  some (zmax a2 (zmin a3 a1), w)
noncomputable def fX6_hurtOf (b : Nat) (a1 : Int32) (w : zz_W) : Option (Int32 × zz_W) :=
  zgrd (zisW b) <|
  zbd (zldI w (b + 4) 10 a1) fun x12 =>
    zbd (zldI w (b + 4) 10 a1) fun x13 =>
    zbd (some (zgI w b 12)) fun x14 =>
    zbd (zldI w (b + 3) 10 a1) fun x15 =>
    zbd2 (fX6_lawOr b x12 0 x13 x14 x15 w) fun x16 w17 =>
    zbd (zldI w17 (b + 1) 10 a1) fun x18 =>
    zbd2 (fX7_held x16 0 99 w17) fun x19 w20 =>
    zbd2 (fX0_hurtOf x18 x19 w20) fun x21 w22 =>
    some (x21, w22)
noncomputable def fX6_lossBy (b : Nat) (a1 : Int32) (a2 : Int32) (w : zz_W) : Option (Int64 × zz_W) :=
  zgrd (zisW b) <|
  zbd (zldI w (b + 4) 10 a1) fun x6 =>
    if a2 < x6 then
    (some (0, w))
    else
    (zbd (zldI w (b + 5) 10 a1) fun x8 =>
    zbd2 (fX6_hurtOf b a1 w) fun x9 w10 =>
    some ((Int32.toInt64 x8) * (Int32.toInt64 x9), w10))
noncomputable def fX1_weigh_99 (a1 : Nat) (a2 : Int32) (k43 : Int32 → zz_W → Option (zz_W)) (l3 : Int32) (s1 : Int32) (w : zz_W) : Option (zz_W) :=
    zbd (some (zsI w 31 9 s1)) fun w24 =>
    zbd (some (l3 + 1)) fun x25 =>
    k43 x25 w24
noncomputable def fX1_weigh_43 (a1 : Nat) (a2 : Int32) : Nat → Int32 → zz_W → Option (zz_W)
  | 0, _, _ => none
  | n + 1, l3, w =>
    zbd (some (zgI w 31 0)) fun x26 =>
    if x26 ≤ l3 then
    (some w)
    else
    (zbd (zldI w 32 24 l3) fun x28 =>
    zbd2 (fX1_lossOf a1 34 x28 w) fun x29 w30 =>
    zbd (zstL w30 33 24 l3 x29) fun w31 =>
    zbd (zldL w31 33 24 l3) fun x32 =>
    zbd (some (zgI w31 31 9)) fun x33 =>
    zbd (zldL w31 33 24 x33) fun x34 =>
    if 0 ≤ (lg_cmp x32 x34) then
    (zbd (some (zgI w31 31 9)) fun x36 =>
    fX1_weigh_99 a1 a2 (fX1_weigh_43 a1 a2 n) l3 x36 w31)
    else
    (fX1_weigh_99 a1 a2 (fX1_weigh_43 a1 a2 n) l3 l3 w31))
noncomputable def fX1_weigh_10 (a1 : Nat) (a2 : Int32) : Nat → Int32 → Int32 → zz_W → Option (zz_W)
  | 0, _, _, _ => none
  | n + 1, l2, l3, w =>
    zbd (some (zgI w a1 9)) fun x37 =>
    if x37 ≤ l3 then
    (zbd (some (zsI w 31 9 0)) fun w39 =>
    fX1_weigh_43 a1 a2 zfuel 0 w39)
    else
    (zbd2 (fX6_lossBy a1 l3 l2 w) fun x40 w41 =>
    zbd (zstL w41 34 10 l3 x40) fun w42 =>
    zbd (some (l3 + 1)) fun x43 =>
    fX1_weigh_10 a1 a2 n l2 x43 w42)
noncomputable def fX1_weigh (a1 : Nat) (a2 : Int32) (w : zz_W) : Option (zz_W) :=
  zgrd (zisW a1) <|
  zbd2 (fX6_allOdds a1 w) fun x44 w45 =>
    zbd (some (zsL w45 31 8 x44)) fun w46 =>
    fX1_weigh_10 a1 a2 zfuel a2 0 w46
noncomputable def fX7_isCell (a1 : Int32) (w : zz_W) : Option (Int32 × zz_W) :=
  zbd2 (fX7_within a1 0 35 w) fun x4 w5 =>
    zbd (zboo x4) fun x6 =>
    some (x6, w5)
noncomputable def fX1_wish_7 (a1 : Nat) : Nat → Int32 → zz_W → Option (zz_W)
  | 0, _, _ => none
  | n + 1, l2, w =>
    zbd (some (zgI w a1 2)) fun x17 =>
    if x17 ≤ l2 then
    (some w)
    else
    (zbd (some (zgI w 31 0)) fun x19 =>
    if 24 ≤ x19 then
    (some w)
    else
    (zbd (zldI w (a1 + 1) 24 l2) fun x21 =>
    zbd2 (fX7_isCell x21 w) fun x22 w23 =>
    if x22 = 0 then
    (zbd (some (l2 + 1)) fun x25 =>
    fX1_wish_7 a1 n x25 w23)
    else
    (zbd (some (zgI w23 31 0)) fun x26 =>
    zbd (zldI w23 (a1 + 1) 24 l2) fun x27 =>
    zbd (zstI w23 32 24 x26 x27) fun w28 =>
    zbd (some (zgI w28 31 0)) fun x29 =>
    zbd (some (zsI w28 31 0 (x29 + 1))) fun w30 =>
    zbd (some (l2 + 1)) fun x31 =>
    fX1_wish_7 a1 n x31 w30)))
noncomputable def fX1_wish (a1 : Nat) (w : zz_W) : Option (zz_W) :=
  zgrd (zisS a1) <|
  zbd (some (zsI w 31 0 0)) fun w32 =>
    fX1_wish_7 a1 zfuel 0 w32
noncomputable def fX2_hasPlace (k : Nat) (a1 : Int32) (w : zz_W) : Option (Int32 × zz_W) :=
  zgrd (zisS k) <|
  zbd (some (zgI w k 2)) fun x5 =>
    zbd2 (fX7_within a1 0 (x5 - 1) w) fun x6 w7 =>
    zbd (zboo x6) fun x8 =>
    some (x8, w7)
noncomputable def fX2_hasPlaces (k : Nat) (a1 : Int32) (a2 : Int32) (w : zz_W) : Option (Int32 × zz_W) :=
  zgrd (zisS k) <|
  if a2 < 0 then
    (some (0, w))
    else
    (if a1 < 0 then
    (some (0, w))
    else
    (zbd (some (zgI w k 2)) fun x7 =>
    if (x7 - a2) < a1 then
    (some (0, w))
    else
    (some (1, w))))
noncomputable def fX2_isMissing (k : Nat) (w : zz_W) : Option (Int32 × zz_W) :=
  zgrd (zisS k) <|
  zbd (some (zgI w k 1)) fun x3 =>
    if x3 = (-1) then
    (some (1, w))
    else
    (some (0, w))
noncomputable def fX2_isNumber (k : Nat) (a1 : Int32) (w : zz_W) : Option (Int32 × zz_W) :=
  zgrd (zisS k) <|
  zbd (zldI w (k + 1) 24 a1) fun x3 =>
    if x3 = (-1000000005) then
    (some (0, w))
    else
    (some (1, w))
noncomputable def fX2_placesOn_5 (k : Nat) (a1 : Int64) : Nat → Int64 → Int32 → Int32 → zz_W → Option (Int32 × zz_W)
  | 0, _, _, _, _ => none
  | n + 1, l1, l3, l4, w =>
    zbd (some (zgI w k 2)) fun x15 =>
    if x15 ≤ l4 then
    (some (l3, w))
    else
    (zbd (zldI w (k + 1) 24 l4) fun x17 =>
    zbd2 (fX7_isCell x17 w) fun x18 w19 =>
    if x18 = 0 then
    (zbd (some (l4 + 1)) fun x21 =>
    fX2_placesOn_5 k a1 n l1 l3 x21 w19)
    else
    (zbd (zldI w19 (k + 1) 24 l4) fun x22 =>
    zbd2 (fX0_has l1 x22 w19) fun x23 w24 =>
    if x23 = 0 then
    (zbd (some (l4 + 1)) fun x26 =>
    fX2_placesOn_5 k a1 n l1 l3 x26 w24)
    else
    (zbd (some (l3 + 1)) fun x27 =>
    zbd (some (l4 + 1)) fun x28 =>
    fX2_placesOn_5 k a1 n l1 x27 x28 w24)))
noncomputable def fX2_placesOn (k : Nat) (a1 : Int64) (w : zz_W) : Option (Int32 × zz_W) :=
  zgrd (zisS k) <|
  fX2_placesOn_5 k a1 zfuel a1 0 0 w
noncomputable def fJ7_fill_53178_5 (a1 : Nat) (a2 : Int32) : Nat → Int32 → Int32 → Int32 → zz_W → Option (zz_W)
  | 0, _, _, _, _ => none
  | n + 1, l1, l2, l3, w =>
    if l3 ≤ l2 then
    (some w)
    else
    (zbd (zstI w a1 24 l2 l1) fun w6 =>
    zbd (some (l2 + 1)) fun x7 =>
    fJ7_fill_53178_5 a1 a2 n l1 x7 l3 w6)
noncomputable def fJ7_fill_53178 (a1 : Nat) (a2 : Int32) (w : zz_W) : Option (zz_W) :=
  zgrd (zisX a1 (.inl (0, 24))) <|
  zbd (some (Int32.ofNat 24)) fun x8 =>
    fJ7_fill_53178_5 a1 a2 zfuel a2 0 x8 w
noncomputable def fX2_renew (k : Nat) (a1 : Int32) (a2 : Int32) (w : zz_W) : Option (zz_W) :=
  zgrd (zisS k) <|
  zbd (some (zsI w k 1 a1)) fun w4 =>
    zbd (some (zsI w4 k 2 a2)) fun w5 =>
    zbd (fJ7_fill_53178 (k + 1) 0 w5) fun w6 =>
    some w6
noncomputable def fX2_takeFrom (k : Nat) (a1 : Nat) (w : zz_W) : Option (zz_W) :=
  zgrd (zisS k) <|
  zgrd (zisS a1) <|
  zbd (some (zgI w a1 1)) fun x6 =>
    zbd (some (zsI w k 1 x6)) fun w7 =>
    zbd (some (zgI w7 a1 2)) fun x8 =>
    zbd (some (zsI w7 k 2 x8)) fun w9 =>
    zbd (zcpI w9 (a1 + 1) 24 0 (k + 1) 24 0 24) fun w10 =>
    some w10
noncomputable def fX4_addBytes_3 (a1 : Int32) : Nat → Int32 → Int32 → zz_W → Option (zz_W)
  | 0, _, _, _ => none
  | n + 1, l1, l2, w =>
    if l2 < 0 then
    (some w)
    else
    (zbd (some (zgI w 36 0)) fun x10 =>
    if 96 ≤ x10 then
    (some w)
    else
    (zbd (some (zgI w 36 0)) fun x12 =>
    zbd (zstI w 37 96 x12 (((l1.toUInt32 >>> (Int32.toUInt32 l2 &&& Int32.toUInt32 31)).toInt32) &&& 255)) fun w13 =>
    zbd (some (zgI w13 36 0)) fun x14 =>
    zbd (some (zsI w13 36 0 (x14 + 1))) fun w15 =>
    zbd (some (l2 + (-8))) fun x16 =>
    fX4_addBytes_3 a1 n l1 x16 w15))
noncomputable def fX4_addBytes (a1 : Int32) (w : zz_W) : Option (zz_W) :=
  fX4_addBytes_3 a1 zfuel a1 24 w
noncomputable def fX4_blame (w : zz_W) : Option (zz_W) :=
  zbd (some (zgI w 36 6)) fun x5 =>
    if 0 ≤ x5 then
    (some w)
    else
    (zbd (some (zgI w 36 3)) fun x7 =>
    zbd (some (zsI w 36 6 x7)) fun w8 =>
    some w8)
noncomputable def fX4_isWord (w : zz_W) : Option (Int32 × zz_W) :=
  zbd (some (zgI w 36 5)) fun x5 =>
    if x5 = 1 then
    (some (1, w))
    else
    (zbd (some (zgI w 36 5)) fun x7 =>
    if x7 = 2 then
    (some (1, w))
    else
    (some (0, w)))
noncomputable def fX4_sortAt_31 (a1 : Int32) (l2 : Int32) (w : zz_W) : Option (Int32 × zz_W) :=
    if l2 < 48 then
    (some (3, w))
    else
    (if 57 < l2 then
    (some (3, w))
    else
    (some (2, w)))
noncomputable def fX4_sortAt (a1 : Int32) (w : zz_W) : Option (Int32 × zz_W) :=
  zbd (some (zgI w 36 0)) fun x10 =>
    if a1 < x10 then
    (zbd (zldI w 37 96 a1) fun x12 =>
    if x12 < 97 then
    (fX4_sortAt_31 a1 x12 w)
    else
    (if 122 < x12 then
    (fX4_sortAt_31 a1 x12 w)
    else
    (some (1, w))))
    else
    (some (0, w))
noncomputable def fX4_advance_131 (l1 : Int32) (l2 : Int32) (w : zz_W) : Option (zz_W) :=
    if l1 = 0 then
    (some w)
    else
    (zbd2 (fX4_isWord w) fun x42 w43 =>
    if x42 = 0 then
    (some w43)
    else
    (zbd (some (zgI w43 36 3)) fun x45 =>
    if x45 = l2 then
    (zbd (fX4_blame w43) fun w47 =>
    some w47)
    else
    (some w43)))
noncomputable def fX4_advance_85 : Nat → Int32 → Int32 → zz_W → Option (zz_W)
  | 0, _, _, _ => none
  | n + 1, l1, l2, w =>
    zbd (some (zgI w 36 4)) fun x48 =>
    zbd (some (zgI w 36 0)) fun x49 =>
    if x49 ≤ x48 then
    (fX4_advance_131 l1 l2 w)
    else
    (zbd2 (fX4_isWord w) fun x51 w52 =>
    if x51 = 0 then
    (fX4_advance_131 l1 l2 w52)
    else
    (zbd (some (zgI w52 36 4)) fun x54 =>
    zbd2 (fX4_sortAt x54 w52) fun x55 w56 =>
    zbd (some (zgI w56 36 5)) fun x57 =>
    if x55 = x57 then
    (zbd (some (zgI w56 36 4)) fun x59 =>
    zbd (some (zsI w56 36 4 (x59 + 1))) fun w60 =>
    fX4_advance_85 n l1 l2 w60)
    else
    (fX4_advance_131 l1 l2 w56)))
noncomputable def fX4_advance_56 (l1 : Int32) (l2 : Int32) (w : zz_W) : Option (zz_W) :=
    zbd (some (zgI w 36 3)) fun x61 =>
    zbd2 (fX4_sortAt x61 w) fun x62 w63 =>
    zbd (some (zsI w63 36 5 x62)) fun w64 =>
    zbd (some (zgI w64 36 0)) fun x65 =>
    zbd (some (zgI w64 36 3)) fun x66 =>
    zbd (some (zsI w64 36 4 (zmin x65 (x66 + 1)))) fun w67 =>
    fX4_advance_85 zfuel l1 l2 w67
noncomputable def fX4_advance_18 : Nat → Int32 → Int32 → zz_W → Option (zz_W)
  | 0, _, _, _ => none
  | n + 1, l1, l2, w =>
    zbd (some (zgI w 36 3)) fun x68 =>
    zbd (some (zgI w 36 0)) fun x69 =>
    if x69 ≤ x68 then
    (fX4_advance_56 l1 l2 w)
    else
    (zbd (some (zgI w 36 3)) fun x71 =>
    zbd (zldI w 37 96 x71) fun x72 =>
    if x72 = 32 then
    (zbd (some (zgI w 36 3)) fun x74 =>
    zbd (some (zsI w 36 3 (x74 + 1))) fun w75 =>
    fX4_advance_18 n l1 l2 w75)
    else
    (fX4_advance_56 l1 l2 w))
noncomputable def fX4_advance (w : zz_W) : Option (zz_W) :=
  zbd2 (fX4_isWord w) fun x76 w77 =>
    zbd (some (zgI w77 36 4)) fun x78 =>
    zbd (some (zgI w77 36 4)) fun x79 =>
    zbd (some (zsI w77 36 3 x79)) fun w80 =>
    fX4_advance_18 zfuel x76 x78 w80
noncomputable def fX4_signIs (a1 : Int32) (w : zz_W) : Option (Int32 × zz_W) :=
  zbd (some (zgI w 36 5)) fun x9 =>
    if x9 = 3 then
    (zbd (some (zgI w 36 3)) fun x11 =>
    zbd (some (zgI w 36 0)) fun x12 =>
    if x12 ≤ x11 then
    (some (0, w))
    else
    (zbd (some (zgI w 36 3)) fun x14 =>
    zbd (zldI w 37 96 x14) fun x15 =>
    if x15 = a1 then
    (some (1, w))
    else
    (some (0, w))))
    else
    (some (0, w))
noncomputable def fX4_closeBracket (w : zz_W) : Option (zz_W) :=
  zbd2 (fX4_signIs 41 w) fun x8 w9 =>
    if x8 = 0 then
    (zbd (fX4_blame w9) fun w11 =>
    some w11)
    else
    (zbd (some (zgI w9 36 6)) fun x12 =>
    if 0 ≤ x12 then
    (some w9)
    else
    (zbd (fX4_advance w9) fun w14 =>
    some w14))
noncomputable def fX4_joinsAt (a1 : Int32) (w : zz_W) : Option (Int32 × zz_W) :=
  if a1 = 0 then
    (zbd2 (fX4_signIs 124 w) fun x32 w33 =>
    zbd (zboo x32) fun x34 =>
    some (x34, w33))
    else if a1 = 1 then
    (zbd2 (fX4_signIs 38 w) fun x36 w37 =>
    zbd (zboo x36) fun x38 =>
    some (x38, w37))
    else if a1 = 2 then
    (zbd2 (fX4_signIs 60 w) fun x40 w41 =>
    if x40 = 0 then
    (zbd2 (fX4_signIs 61 w41) fun x43 w44 =>
    if x43 = 0 then
    (zbd2 (fX4_signIs 62 w44) fun x46 w47 =>
    if x46 = 0 then
    (some (0, w47))
    else
    (some (1, w47)))
    else
    (some (1, w44)))
    else
    (some (1, w41)))
    else if a1 = 3 then
    (zbd2 (fX4_signIs 43 w) fun x50 w51 =>
    if x50 = 0 then
    (zbd2 (fX4_signIs 45 w51) fun x53 w54 =>
    if x53 = 0 then
    (some (0, w54))
    else
    (some (1, w54)))
    else
    (some (1, w51)))
    else 
    (zbd2 (fX4_signIs 42 w) fun x57 w58 =>
    if x57 = 0 then
    (zbd2 (fX4_signIs 47 w58) fun x60 w61 =>
    if x60 = 0 then
    (some (0, w61))
    else
    (some (1, w61)))
    else
    (some (1, w58)))
noncomputable def fJ0_isLatin1_aae02 (i : Nat) (w : zz_W) : Option (Int32 × zz_W) :=
  zgrd (decide (i < 6)) <|
  if (1 : Int32) = 0 then
    (some (0, w))
    else
    (if (0 : Int32) = 0 then
    (some (1, w))
    else
    (some (0, w)))
noncomputable def fJ0_coder_7d493 (i : Nat) (w : zz_W) : Option (Int32 × zz_W) :=
  zgrd (decide (i < 6)) <|
  if (1 : Int32) = 0 then
    (some (1, w))
    else
    (some (0, w))
noncomputable def fJ0_length_8abf5 (i : Nat) (w : zz_W) : Option (Int32 × zz_W) :=
  zgrd (decide (i < 6)) <|
  zbd2 (fJ0_coder_7d493 i w) fun x3 w4 =>
    some ((Int32.ofNat (zlen.getD i 0)) >>> (x3 &&& 31), w4)
noncomputable def fJ1_canEncode_9a6ad (a1 : Int32) (w : zz_W) : Option (Int32 × zz_W) :=
  if a1 < 0 then
    (some (0, w))
    else
    (if 255 < a1 then
    (some (0, w))
    else
    (some (1, w)))
noncomputable def fJ1_indexOfChar_4cfef_7 (a1 : Nat) (a2 : Int32) (a3 : Int32) (a4 : Int32) : Nat → Int32 → Int32 → Int32 → zz_W → Option (Int32 × zz_W)
  | 0, _, _, _, _ => none
  | n + 1, l3, l4, l5, w =>
    if l3 ≤ l5 then
    (some ((-1), w))
    else
    (zbd (zldB a1 l5) fun x7 =>
    if x7 = l4 then
    (some (l5, w))
    else
    (zbd (some (l5 + 1)) fun x9 =>
    fJ1_indexOfChar_4cfef_7 a1 a2 a3 a4 n l3 l4 x9 w))
noncomputable def fJ1_indexOfChar_4cfef (a1 : Nat) (a2 : Int32) (a3 : Int32) (a4 : Int32) (w : zz_W) : Option (Int32 × zz_W) :=
  zgrd (decide (a1 < 6)) <|
  zbd (some ((Int32.toInt8 a2).toInt32)) fun x10 =>
    fJ1_indexOfChar_4cfef_7 a1 a2 a3 a4 zfuel a4 x10 a3 w
noncomputable def fJ1_indexOf_4cfef (a1 : Nat) (a2 : Int32) (a3 : Int32) (a4 : Int32) (w : zz_W) : Option (Int32 × zz_W) :=
  zgrd (decide (a1 < 6)) <|
  zbd2 (fJ1_canEncode_9a6ad a2 w) fun x9 w10 =>
    if x9 = 0 then
    (some ((-1), w10))
    else
    (zbd (some (zmax a3 0)) fun x12 =>
    zbd (some (zmin a4 (Int32.ofNat (zlen.getD a1 0)))) fun x13 =>
    if x12 < x13 then
    (zbd2 (fJ1_indexOfChar_4cfef a1 a2 x12 x13 w10) fun x15 w16 =>
    some (x15, w16))
    else
    (some ((-1), w10)))
noncomputable def fJ0_indexOf_7cf53 (i : Nat) (a1 : Int32) (a2 : Int32) (w : zz_W) : Option (Int32 × zz_W) :=
  zgrd (decide (i < 6)) <|
  zbd2 (fJ0_isLatin1_aae02 i w) fun x10 w11 =>
    if x10 = 0 then
    (zbd2 (fJ0_length_8abf5 i w11) fun x13 w14 =>
    none)
    else
    (zbd2 (fJ0_length_8abf5 i w11) fun x15 w16 =>
    zbd2 (fJ1_indexOf_4cfef i a1 a2 x15 w16) fun x17 w18 =>
    some (x17, w18))
noncomputable def fJ0_indexOf_0f7a4 (i : Nat) (a1 : Int32) (w : zz_W) : Option (Int32 × zz_W) :=
  zgrd (decide (i < 6)) <|
  zbd2 (fJ0_indexOf_7cf53 i a1 0 w) fun x3 w4 =>
    some (x3, w4)
noncomputable def fX4_names (w : zz_W) : Option (Nat × zz_W) :=
  zbd (some (zgI w 36 7)) fun x5 =>
    if x5 = 0 then
    (some (3, w))
    else
    (zbd (some (zgI w 36 7)) fun x7 =>
    if x7 = 1 then
    (some (4, w))
    else
    (some (5, w)))
noncomputable def fX4_write (a1 : Int32) (w : zz_W) : Option (zz_W) :=
  zbd (some (zgI w 36 8)) fun x7 =>
    if (Int32.ofNat 96) ≤ x7 then
    (some w)
    else
    (zbd (some (zgI w 36 8)) fun x9 =>
    zbd (zstI w 38 96 x9 a1) fun w10 =>
    zbd (some (zgI w10 36 8)) fun x11 =>
    zbd (some (zsI w10 36 8 (x11 + 1))) fun w12 =>
    some w12)
noncomputable def fX4_writeAtom (a1 : Int32) (w : zz_W) : Option (zz_W) :=
  zbd (some (zgI w 36 9)) fun x5 =>
    zbd (some (zsI w 36 9 (x5 + 1))) fun w6 =>
    zbd (fX4_write a1 w6) fun w7 =>
    zbd (fX4_advance w7) fun w8 =>
    some w8
noncomputable def fX4_readName_34 (s0 : Int32) (w : zz_W) : Option (zz_W) :=
    if 0 ≤ s0 then
    (zbd (fX4_writeAtom ((-3) + s0) w) fun w15 =>
    some w15)
    else
    (zbd (fX4_blame w) fun w16 =>
    some w16)
noncomputable def fX4_readName (w : zz_W) : Option (zz_W) :=
  zbd (some (zgI w 36 4)) fun x17 =>
    zbd (some (zgI w 36 3)) fun x18 =>
    if (x17 - x18) = 1 then
    (zbd2 (fX4_names w) fun x20 w21 =>
    zgrd (decide (x20 < 6)) <|
    zbd (some (zgI w21 36 3)) fun x23 =>
    zbd (zldI w21 37 96 x23) fun x24 =>
    zbd2 (fJ0_indexOf_0f7a4 x20 ((Int32.toUInt32 x24 % 65536).toInt32) w21) fun x25 w26 =>
    fX4_readName_34 x25 w26)
    else
    (fX4_readName_34 (-1) w)
noncomputable def fX4_readNumber_25 : Nat → Int32 → Int32 → zz_W → Option (zz_W)
  | 0, _, _, _ => none
  | n + 1, l1, l2, w =>
    zbd (some (zgI w 36 4)) fun x12 =>
    if x12 ≤ l2 then
    (zbd (fX4_writeAtom l1 w) fun w14 =>
    some w14)
    else
    (zbd (zldI w 37 96 l2) fun x15 =>
    zbd (some (((l1 * 10) + x15) - 48)) fun x16 =>
    zbd (some (l2 + 1)) fun x17 =>
    fX4_readNumber_25 n x16 x17 w)
noncomputable def fX4_readNumber (w : zz_W) : Option (zz_W) :=
  zbd (some (zgI w 36 4)) fun x18 =>
    zbd (some (zgI w 36 3)) fun x19 =>
    if (x18 - x19) ≤ 4 then
    (zbd (some (zgI w 36 3)) fun x21 =>
    fX4_readNumber_25 zfuel 0 x21 w)
    else
    (zbd (fX4_blame w) fun w22 =>
    some w22)
noncomputable def fJ3_checkIndex_8e157_9 (a1 : Int32) (a2 : Int32) (l0 : Int32) (l1 : Int32) (w : zz_W) : Option (Int32 × zz_W) :=
    none
noncomputable def fJ3_checkIndex_8e157 (a1 : Int32) (a2 : Int32) (w : zz_W) : Option (Int32 × zz_W) :=
  if a1 < 0 then
    (fJ3_checkIndex_8e157_9 a1 a2 a1 a2 w)
    else
    (if a1 < a2 then
    (some (a1, w))
    else
    (fJ3_checkIndex_8e157_9 a1 a2 a1 a2 w))
noncomputable def fJ0_checkIndex_df160 (a1 : Int32) (a2 : Int32) (w : zz_W) : Option (zz_W) :=
  zbd2 (fJ3_checkIndex_8e157 a1 a2 w) fun x5 w6 =>
    some w6
noncomputable def fJ1_charAt_3b067 (a1 : Nat) (a2 : Int32) (w : zz_W) : Option (Int32 × zz_W) :=
  zgrd (decide (a1 < 6)) <|
  zbd (fJ0_checkIndex_df160 a2 (Int32.ofNat (zlen.getD a1 0)) w) fun w4 =>
    zbd (zldB a1 a2) fun x5 =>
    zbd (zfit .char ((Int32.toUInt32 (x5 &&& 255) % 65536).toInt32)) fun x6 =>
    some (x6, w4)
noncomputable def fJ0_charAt_5068e (i : Nat) (a1 : Int32) (w : zz_W) : Option (Int32 × zz_W) :=
  zgrd (decide (i < 6)) <|
  zbd2 (fJ0_isLatin1_aae02 i w) fun x7 w8 =>
    if x7 = 0 then
    (none)
    else
    (zbd2 (fJ1_charAt_3b067 i a1 w8) fun x10 w11 =>
    zbd (zfit .char x10) fun x12 =>
    some (x12, w11))
noncomputable def fX4_wordIs_28 (a1 : Nat) : Nat → Int32 → zz_W → Option (Int32 × zz_W)
  | 0, _, _ => none
  | n + 1, l2, w =>
    zbd2 (fJ0_length_8abf5 a1 w) fun x17 w18 =>
    if x17 ≤ l2 then
    (some (1, w18))
    else
    (zbd (some (zgI w18 36 3)) fun x20 =>
    zbd (zldI w18 37 96 (x20 + l2)) fun x21 =>
    zbd2 (fJ0_charAt_5068e a1 l2 w18) fun x22 w23 =>
    if x21 = x22 then
    (zbd (some (l2 + 1)) fun x25 =>
    fX4_wordIs_28 a1 n x25 w23)
    else
    (some (0, w23)))
noncomputable def fX4_wordIs (a1 : Nat) (w : zz_W) : Option (Int32 × zz_W) :=
  zgrd (decide (a1 < 6)) <|
  zbd (some (zgI w 36 5)) fun x26 =>
    if x26 = 1 then
    (zbd (some (zgI w 36 4)) fun x28 =>
    zbd (some (zgI w 36 3)) fun x29 =>
    zbd2 (fJ0_length_8abf5 a1 w) fun x30 w31 =>
    if (x28 - x29) = x30 then
    (fX4_wordIs_28 a1 zfuel 0 w31)
    else
    (some (0, w31)))
    else
    (some (0, w))
noncomputable def fX4_keyHere (w : zz_W) : Option (Int32 × zz_W) :=
  zbd2 (fX4_wordIs 0 w) fun x10 w11 =>
    if x10 = 0 then
    (zbd2 (fX4_wordIs 1 w11) fun x13 w14 =>
    if x13 = 0 then
    (zbd2 (fX4_wordIs 2 w14) fun x16 w17 =>
    if x16 = 0 then
    (some ((-1), w17))
    else
    (some (2, w17)))
    else
    (some (1, w14)))
    else
    (some (0, w11))
noncomputable def fX4_join_37 (F : Int32 → Int32 → Int32 → zz_W → Option zz_W) (G : Int32 → Int32 → zz_W → Option zz_W) (a1 : Int32) (a2 : Int32) (a3 : Int32) : Nat → Int32 → Int32 → Int32 → Int32 → Int32 → zz_W → Option (zz_W)
  | 0, _, _, _, _, _, _ => none
  | n + 1, l1, l2, l3, l4, l5, w =>
    if l4 ≤ l5 then
    (some w)
    else
    (zbd (some (zgI w 36 6)) fun x18 =>
    if 0 ≤ x18 then
    (some w)
    else
    (zbd2 (fX4_joinsAt l1 w) fun x20 w21 =>
    if x20 = 0 then
    (some w21)
    else
    (zbd (some (zgI w21 36 3)) fun x23 =>
    zbd (zldI w21 37 96 x23) fun x24 =>
    zbd (fX4_advance w21) fun w25 =>
    zbd (F (l1 + 1) l2 l3 w25) fun w26 =>
    zbd (fX4_write (-x24) w26) fun w27 =>
    zbd (some (l5 + 1)) fun x28 =>
    fX4_join_37 F G a1 a2 a3 n l1 l2 l3 l4 x28 w27)))
noncomputable def bX4_join (F : Int32 → Int32 → Int32 → zz_W → Option zz_W) (G : Int32 → Int32 → zz_W → Option zz_W) (a1 : Int32) (a2 : Int32) (a3 : Int32) (w : zz_W) : Option (zz_W) :=
  if a1 ≤ 4 then
    (zbd (F (a1 + 1) a2 a3 w) fun w30 =>
    if a1 = 2 then
    (fX4_join_37 F G a1 a2 a3 zfuel a1 a2 a3 1 0 w30)
    else
    (fX4_join_37 F G a1 a2 a3 zfuel a1 a2 a3 96 0 w30))
    else
    (zbd (G a2 a3 w) fun w32 =>
    some w32)
noncomputable def fX4_readPiece_109 (F : Int32 → Int32 → Int32 → zz_W → Option zz_W) (G : Int32 → Int32 → zz_W → Option zz_W) (a1 : Int32) (a2 : Int32) (w : zz_W) : Option (zz_W) :=
    zbd (fX4_blame w) fun w24 =>
    some w24
noncomputable def fX4_readPiece_74 (F : Int32 → Int32 → Int32 → zz_W → Option zz_W) (G : Int32 → Int32 → zz_W → Option zz_W) (a1 : Int32) (a2 : Int32) (l1 : Int32) (l2 : Int32) (w : zz_W) : Option (zz_W) :=
    zbd2 (fX4_signIs 40 w) fun x25 w26 =>
    if x25 = 0 then
    (fX4_readPiece_109 F G a1 a2 w26)
    else
    (if 8 ≤ l1 then
    (fX4_readPiece_109 F G a1 a2 w26)
    else
    (zbd (fX4_advance w26) fun w29 =>
    zbd (F 0 (l1 + 1) l2 w29) fun w30 =>
    zbd (fX4_closeBracket w30) fun w31 =>
    some w31))
noncomputable def bX4_readPiece (F : Int32 → Int32 → Int32 → zz_W → Option zz_W) (G : Int32 → Int32 → zz_W → Option zz_W) (a1 : Int32) (a2 : Int32) (w : zz_W) : Option (zz_W) :=
  zbd (some (zgI w 36 6)) fun x32 =>
    if x32 < 0 then
    (zbd (some (zgI w 36 5)) fun x34 =>
    if x34 = 2 then
    (zbd (fX4_readNumber w) fun w46 =>
    some w46)
    else
    (zbd (some (zgI w 36 5)) fun x36 =>
    if x36 = 1 then
    (zbd (fX4_readName w) fun w45 =>
    some w45)
    else
    (zbd2 (fX4_signIs 33 w) fun x38 w39 =>
    if x38 = 0 then
    (fX4_readPiece_74 F G a1 a2 a1 a2 w39)
    else
    (if 8 ≤ a2 then
    (fX4_readPiece_74 F G a1 a2 a1 a2 w39)
    else
    (zbd (fX4_advance w39) fun w42 =>
    zbd (G a1 (a2 + 1) w42) fun w43 =>
    zbd (fX4_write (-33) w43) fun w44 =>
    some w44)))))
    else
    (some w)
noncomputable def fJR : Nat → (Int32 → Int32 → Int32 → zz_W → Option zz_W) × (Int32 → Int32 → zz_W → Option zz_W)
  | 0 => (fun _ _ _ _ => none, fun _ _ _ => none)
  | d + 1 => (fun a b c w => bX4_join (fJR d).1 (fJR d).2 a b c w, fun a b w => bX4_readPiece (fJR d).1 (fJR d).2 a b w)
noncomputable def fX4_join (a1 : Int32) (a2 : Int32) (a3 : Int32) (w : zz_W) : Option zz_W := (fJR 100).1 a1 a2 a3 w
noncomputable def fX4_findFault (w : zz_W) : Option (Int32 × zz_W) :=
  zbd (some (zsI w 36 4 0)) fun w21 =>
    zbd (some (zsI w21 36 5 0)) fun w22 =>
    zbd (some (zsI w22 36 6 (-1))) fun w23 =>
    zbd (some (zsI w23 36 8 0)) fun w24 =>
    zbd (some (zsI w24 36 9 0)) fun w25 =>
    zbd (fX4_advance w25) fun w26 =>
    zbd2 (fX4_keyHere w26) fun x27 w28 =>
    zbd (some (zsI w28 36 7 x27)) fun w29 =>
    zbd (some (zgI w29 36 7)) fun x30 =>
    if 0 ≤ x30 then
    (zbd (fX4_advance w29) fun w32 =>
    zbd (fX4_join 0 0 0 w32) fun w33 =>
    zbd (some (zgI w33 36 5)) fun x34 =>
    if x34 = 0 then
    (zbd (some (zgI w33 36 6)) fun x36 =>
    some (x36, w33))
    else
    (zbd (fX4_blame w33) fun w37 =>
    zbd (some (zgI w37 36 6)) fun x38 =>
    some (x38, w37)))
    else
    (zbd (fX4_blame w29) fun w39 =>
    zbd (some (zgI w39 36 6)) fun x40 =>
    some (x40, w39))
noncomputable def fX6_shape (b : Nat) (a1 : Int32) (a2 : Int32) (a3 : Int32) (w : zz_W) : Option (zz_W) :=
  zgrd (zisW b) <|
  zbd (zstI w (b + 1) 10 a1 a2) fun w6 =>
    zbd (zstI w6 (b + 2) 10 a1 a3) fun w7 =>
    zbd2 (fX0_cellsOf a2 a3 w7) fun x8 w9 =>
    zbd (zstL w9 (b + 6) 10 a1 x8) fun w10 =>
    some w10
noncomputable def fX6_addRun (b : Nat) (a1 : Int32) (a2 : Int32) (a3 : Int32) (a4 : Int32) (w : zz_W) : Option (zz_W) :=
  zgrd (zisW b) <|
  zbd (some (zgI w b 9)) fun x13 =>
    if x13 < 10 then
    (zbd (some (zgI w b 9)) fun x15 =>
    zbd (zstI w (b + 3) 10 x15 a3) fun w16 =>
    zbd (some (zgI w16 b 9)) fun x17 =>
    zbd (zstI w16 (b + 4) 10 x17 a4) fun w18 =>
    zbd (some (zgI w18 b 9)) fun x19 =>
    zbd (zstI w18 (b + 5) 10 x19 (a3 * 1000)) fun w20 =>
    zbd (some (zgI w20 b 9)) fun x21 =>
    zbd (fX6_shape b x21 a1 a2 w20) fun w22 =>
    zbd (some (zgI w22 b 9)) fun x23 =>
    zbd (some (zsI w22 b 9 (x23 + 1))) fun w24 =>
    some w24)
    else
    (some w)
noncomputable def fX6_addText (b : Nat) (a1 : Nat) (w : zz_W) : Option (zz_W) :=
  zgrd (zisW b) <|
  zbd (some (zgI w b 15)) fun x12 =>
    if x12 < 14 then
    (zbd (some (zgI w b 15)) fun x14 =>
    zgrd (zisT w.2.2.2 a1) <|
    zbd (zstR w (b + 8) 14 x14 (some a1)) fun w16 =>
    zgrd (zisT w16.2.2.2 a1) <|
    zbd (some (zgI w16 a1 0)) fun x18 =>
    zbd (some (zgI w16 b 15)) fun x19 =>
    zbd (zstI w16 (b + 9) 3 x18 x19) fun w20 =>
    zbd (some (zgI w20 b 15)) fun x21 =>
    zbd (some (zsI w20 b 15 (x21 + 1))) fun w22 =>
    some w22)
    else
    (some w)
noncomputable def fX6_forget_2 (b : Nat) : Nat → Int32 → zz_W → Option (zz_W)
  | 0, _, _ => none
  | n + 1, l1, w =>
    zbd (some (zgI w b 9)) fun x8 =>
    if x8 ≤ l1 then
    (zbd (zldI w (b + 7) 7 6) fun x10 =>
    zbd (zstI w (b + 7) 7 6 (x10 + 1)) fun w11 =>
    some w11)
    else
    (zbd (zldI w (b + 3) 10 l1) fun x12 =>
    zbd (zstI w (b + 5) 10 l1 (x12 * 1000)) fun w13 =>
    zbd (some (l1 + 1)) fun x14 =>
    fX6_forget_2 b n x14 w13)
noncomputable def fX6_forget (b : Nat) (w : zz_W) : Option (zz_W) :=
  zgrd (zisW b) <|
  fX6_forget_2 b zfuel 0 w
noncomputable def fX6_changeOdds_47 (b : Nat) (a1 : Int32) (a2 : Int32) (a3 : Int32) (k6 : Int32 → Int32 → Int32 → Int32 → Int32 → zz_W → Option (zz_W)) (l1 : Int32) (l2 : Int32) (l3 : Int32) (l4 : Int32) (l5 : Int32) (s1 : Int32) (s2 : Int32) (s4 : Int32) (s5 : Int32) (w : zz_W) : Option (zz_W) :=
    zbd2 (fX6_ofHundred b s4 s5 w) fun x16 w17 =>
    zbd (zdiv (s2 * x16) 100) fun x18 =>
    zbd (zstI w17 (b + 5) 10 s1 x18) fun w19 =>
    zbd (zldI w19 (b + 5) 10 l5) fun x20 =>
    zbd (some (l4 + x20)) fun x21 =>
    zbd (some (l5 + 1)) fun x22 =>
    k6 l1 l2 l3 x21 x22 w19
noncomputable def fX6_changeOdds_6 (b : Nat) (a1 : Int32) (a2 : Int32) (a3 : Int32) : Nat → Int32 → Int32 → Int32 → Int32 → Int32 → zz_W → Option (zz_W)
  | 0, _, _, _, _, _, _ => none
  | n + 1, l1, l2, l3, l4, l5, w =>
    zbd (some (zgI w b 9)) fun x23 =>
    if x23 ≤ l5 then
    (if l4 = 0 then
    (zbd (fX6_forget b w) fun w26 =>
    some w26)
    else
    (some w))
    else
    (zbd (zldI w (b + 5) 10 l5) fun x27 =>
    zbd2 (fX6_wouldTell b l5 l1 l2 w) fun x28 w29 =>
    if x28 = l3 then
    (fX6_changeOdds_47 b a1 a2 a3 (fX6_changeOdds_6 b a1 a2 a3 n) l1 l2 l3 l4 l5 l5 x27 l1 1 w29)
    else
    (fX6_changeOdds_47 b a1 a2 a3 (fX6_changeOdds_6 b a1 a2 a3 n) l1 l2 l3 l4 l5 l5 x27 l1 0 w29))
noncomputable def fX6_changeOdds (b : Nat) (a1 : Int32) (a2 : Int32) (a3 : Int32) (w : zz_W) : Option (zz_W) :=
  zgrd (zisW b) <|
  fX6_changeOdds_6 b a1 a2 a3 zfuel a1 a2 a3 0 0 w
noncomputable def fX6_draw (b : Nat) (w : zz_W) : Option (Int32 × zz_W) :=
  zgrd (zisW b) <|
  zbd (some (zgI w b 14)) fun x4 =>
    zbd (some (zsI w b 14 ((x4 * 1103515245) + 12345))) fun w5 =>
    zbd (some (zgI w5 b 14)) fun x6 =>
    some ((x6.toUInt32 >>> (Int32.toUInt32 8 &&& Int32.toUInt32 31)).toInt32, w5)
noncomputable def fX6_chooseTrue_41 (b : Nat) : Nat → Int32 → Int32 → zz_W → Option (zz_W)
  | 0, _, _, _ => none
  | n + 1, l2, l3, w =>
    zbd (some (zgI w b 9)) fun x17 =>
    if x17 ≤ l3 then
    (some w)
    else
    (zbd (zldI w (b + 3) 10 l3) fun x19 =>
    zbd (some (l2 - x19)) fun x20 =>
    if 0 ≤ x20 then
    (zbd (some (l3 + 1)) fun x22 =>
    fX6_chooseTrue_41 b n x20 x22 w)
    else
    (zbd (some (zsI w b 10 l3)) fun w23 =>
    some w23))
noncomputable def fX6_chooseTrue_4 (b : Nat) : Nat → Int32 → Int32 → zz_W → Option (zz_W)
  | 0, _, _, _ => none
  | n + 1, l1, l2, w =>
    zbd (some (zgI w b 9)) fun x24 =>
    if x24 ≤ l2 then
    (if 0 < l1 then
    (zbd2 (fX6_draw b w) fun x27 w28 =>
    zbd (zrem x27 l1) fun x29 =>
    fX6_chooseTrue_41 b zfuel x29 0 w28)
    else
    (some w))
    else
    (zbd (zldI w (b + 3) 10 l2) fun x30 =>
    zbd (some (l1 + x30)) fun x31 =>
    zbd (some (l2 + 1)) fun x32 =>
    fX6_chooseTrue_4 b n x31 x32 w)
noncomputable def fX6_chooseTrue (b : Nat) (w : zz_W) : Option (zz_W) :=
  zgrd (zisW b) <|
  fX6_chooseTrue_4 b zfuel 0 0 w
noncomputable def fX6_drawRun (b : Nat) (w : zz_W) : Option (zz_W) :=
  zgrd (zisW b) <|
  zbd2 (fX6_draw b w) fun x15 w16 =>
    zbd (zrem x15 6) fun x17 =>
    zbd2 (fX6_draw b w16) fun x18 w19 =>
    zbd (zrem x18 36) fun x20 =>
    zbd2 (fX6_draw b w19) fun x21 w22 =>
    zbd (zrem x21 40) fun x23 =>
    zbd (some (1 + x23)) fun x24 =>
    zbd2 (fX6_draw b w22) fun x25 w26 =>
    zbd (zrem x25 9) fun x27 =>
    zbd (fX6_addRun b x17 x20 x24 (1 + x27) w26) fun w28 =>
    some w28
noncomputable def fX6_drillAt (b : Nat) (a1 : Int32) (a2 : Int32) (w : zz_W) : Option (Int32 × zz_W) :=
  zgrd (zisW b) <|
  zbd (zldI w (b + 7) 7 2) fun x18 =>
    zbd (zstI w (b + 7) 7 2 (x18 + 1)) fun w19 =>
    zbd (some (zgI w19 b 10)) fun x20 =>
    zbd (zldL w19 (b + 6) 10 x20) fun x21 =>
    zbd2 (fX0_has x21 a1 w19) fun x22 w23 =>
    if x22 = 0 then
    (some (0, w23))
    else
    (zbd (some (zgI w23 b 10)) fun x25 =>
    zbd (zldI w23 (b + 4) 10 x25) fun x26 =>
    if x26 ≤ a2 then
    (zbd (some (zgI w23 b 10)) fun x28 =>
    zbd2 (fX6_hurtOf b x28 w23) fun x29 w30 =>
    zbd (zldI w30 (b + 7) 7 1) fun x31 =>
    zbd (zstI w30 (b + 7) 7 1 (x31 + 1)) fun w32 =>
    zbd (zldI w32 (b + 7) 7 0) fun x33 =>
    zbd (zstI w32 (b + 7) 7 0 (x33 + x29)) fun w34 =>
    some (x29, w34))
    else
    (some (0, w23)))
noncomputable def fX6_isRun (b : Nat) (a1 : Int32) (w : zz_W) : Option (Int32 × zz_W) :=
  zgrd (zisW b) <|
  zbd (some (zgI w b 9)) fun x5 =>
    zbd2 (fX7_within a1 0 (x5 - 1) w) fun x6 w7 =>
    zbd (zboo x6) fun x8 =>
    some (x8, w7)
noncomputable def fX6_isBuilt (b : Nat) (w : zz_W) : Option (Int32 × zz_W) :=
  zgrd (zisW b) <|
  zbd (some (zgI w b 10)) fun x5 =>
    zbd2 (fX6_isRun b x5 w) fun x6 w7 =>
    zbd (zboo x6) fun x8 =>
    some (x8, w7)
noncomputable def fX6_testAt_44 (b : Nat) (a1 : Int32) (a2 : Int32) (l1 : Int32) (l2 : Int32) (l3 : Int32) (w : zz_W) : Option (Int32 × zz_W) :=
    zbd (zldI w (b + 7) 7 3) fun x19 =>
    zbd (zstI w (b + 7) 7 3 (x19 + 1)) fun w20 =>
    zbd (zldI w20 (b + 7) 7 5) fun x21 =>
    zbd (zldF zMINS 4 l1) fun x22 =>
    zbd (zstI w20 (b + 7) 7 5 (x21 + x22)) fun w23 =>
    zbd (fX6_changeOdds b l1 l2 l3 w23) fun w24 =>
    some (l3, w24)
noncomputable def fX6_testAt (b : Nat) (a1 : Int32) (a2 : Int32) (w : zz_W) : Option (Int32 × zz_W) :=
  zgrd (zisW b) <|
  zbd (some (zgI w b 10)) fun x25 =>
    zbd2 (fX6_wouldTell b x25 a1 a2 w) fun x26 w27 =>
    if a1 = 3 then
    (fX6_testAt_44 b a1 a2 a1 a2 x26 w27)
    else
    (zbd2 (fX6_draw b w27) fun x29 w30 =>
    zbd (zrem x29 100) fun x31 =>
    zbd (some (zgI w30 b 11)) fun x32 =>
    if x32 ≤ x31 then
    (fX6_testAt_44 b a1 a2 a1 a2 x26 w30)
    else
    (zbd (some (1 - x26)) fun x34 =>
    zbd (zldI w30 (b + 7) 7 4) fun x35 =>
    zbd (zstI w30 (b + 7) 7 4 (x35 + 1)) fun w36 =>
    fX6_testAt_44 b a1 a2 a1 a2 x34 w36))
noncomputable def fX6_takeStep_41 (b : Nat) (w : zz_W) : Option (zz_W) :=
    zbd (some (zgI w b 13)) fun x17 =>
    zbd (some (zsI w b 13 (x17 + 1))) fun w18 =>
    some w18
noncomputable def fX6_takeStep (b : Nat) (w : zz_W) : Option (zz_W) :=
  zgrd (zisW b) <|
  zbd (some (zgI w b 9)) fun x19 =>
    if x19 ≤ 0 then
    (fX6_takeStep_41 b w)
    else
    (zbd2 (fX6_isBuilt b w) fun x21 w22 =>
    if x21 = 0 then
    (zbd (fX6_chooseTrue b w22) fun w24 =>
    fX6_takeStep_41 b w24)
    else
    (zbd2 (fX6_draw b w22) fun x25 w26 =>
    zbd (zrem x25 4) fun x27 =>
    zbd2 (fX6_draw b w26) fun x28 w29 =>
    zbd (zrem x28 36) fun x30 =>
    zbd2 (fX6_testAt b x27 x30 w29) fun x31 w32 =>
    fX6_takeStep_41 b w32))
noncomputable def fX6_goOn_2 (b : Nat) (a1 : Int32) : Nat → Int32 → Int32 → zz_W → Option (zz_W)
  | 0, _, _, _ => none
  | n + 1, l1, l2, w =>
    if l1 ≤ l2 then
    (some w)
    else
    (zbd (fX6_takeStep b w) fun w5 =>
    zbd (some (l2 + 1)) fun x6 =>
    fX6_goOn_2 b a1 n l1 x6 w5)
noncomputable def fX6_goOn (b : Nat) (a1 : Int32) (w : zz_W) : Option (zz_W) :=
  zgrd (zisW b) <|
  fX6_goOn_2 b a1 zfuel a1 0 w
noncomputable def fX6_isKnown (b : Nat) (w : zz_W) : Option (Int32 × zz_W) :=
  zgrd (zisW b) <|
  zbd2 (fX6_isBuilt b w) fun x9 w10 =>
    if x9 = 0 then
    (some (0, w10))
    else
    (zbd2 (fX6_allOdds b w10) fun x12 w13 =>
    zbd (some (zgI w13 b 10)) fun x14 =>
    zbd (zldI w13 (b + 5) 10 x14) fun x15 =>
    if 0 < (lg_cmp (900 * x12) (1000 * (Int32.toInt64 x15))) then
    (some (0, w13))
    else
    (some (1, w13)))
noncomputable def fX6_likeliest_4 (b : Nat) : Nat → Int32 → Int32 → zz_W → Option (Int32 × zz_W)
  | 0, _, _, _ => none
  | n + 1, l1, l2, w =>
    zbd (some (zgI w b 9)) fun x11 =>
    if x11 ≤ l2 then
    (some (l1, w))
    else
    (if l1 < 0 then
    (zbd (some (l2 + 1)) fun x14 =>
    fX6_likeliest_4 b n l2 x14 w)
    else
    (zbd (zldI w (b + 5) 10 l2) fun x15 =>
    zbd (zldI w (b + 5) 10 l1) fun x16 =>
    if x15 ≤ x16 then
    (zbd (some (l2 + 1)) fun x18 =>
    fX6_likeliest_4 b n l1 x18 w)
    else
    (zbd (some (l2 + 1)) fun x19 =>
    fX6_likeliest_4 b n l2 x19 w)))
noncomputable def fX6_likeliest (b : Nat) (w : zz_W) : Option (Int32 × zz_W) :=
  zgrd (zisW b) <|
  zbd (some (-1)) fun x20 =>
    fX6_likeliest_4 b zfuel x20 0 w
noncomputable def fX6_lossAt_5 (b : Nat) (a1 : Int32) (a2 : Int32) : Nat → Int32 → Int32 → Int64 → Int32 → zz_W → Option (Int64 × zz_W)
  | 0, _, _, _, _, _ => none
  | n + 1, l1, l2, l3, l5, w =>
    zbd (some (zgI w b 9)) fun x13 =>
    if x13 ≤ l5 then
    (some (l3, w))
    else
    (zbd (zldL w (b + 6) 10 l5) fun x15 =>
    zbd2 (fX0_has x15 l1 w) fun x16 w17 =>
    if x16 = 0 then
    (zbd (some (l3 + 0)) fun x19 =>
    zbd (some (l5 + 1)) fun x20 =>
    fX6_lossAt_5 b a1 a2 n l1 l2 x19 x20 w17)
    else
    (zbd2 (fX6_lossBy b l5 l2 w17) fun x21 w22 =>
    zbd (some (l3 + x21)) fun x23 =>
    zbd (some (l5 + 1)) fun x24 =>
    fX6_lossAt_5 b a1 a2 n l1 l2 x23 x24 w22))
noncomputable def fX6_lossAt (b : Nat) (a1 : Int32) (a2 : Int32) (w : zz_W) : Option (Int64 × zz_W) :=
  zgrd (zisW b) <|
  fX6_lossAt_5 b a1 a2 zfuel a1 a2 0 0 w
noncomputable def fX6_oddsAt_5 (b : Nat) (a1 : Int32) : Nat → Int32 → Int64 → Int32 → zz_W → Option (Int64 × zz_W)
  | 0, _, _, _, _ => none
  | n + 1, l1, l2, l4, w =>
    zbd (some (zgI w b 9)) fun x12 =>
    if x12 ≤ l4 then
    (some (l2, w))
    else
    (zbd (zldL w (b + 6) 10 l4) fun x14 =>
    zbd2 (fX0_has x14 l1 w) fun x15 w16 =>
    if x15 = 0 then
    (zbd (some (l2 + 0)) fun x18 =>
    zbd (some (l4 + 1)) fun x19 =>
    fX6_oddsAt_5 b a1 n l1 x18 x19 w16)
    else
    (zbd (zldI w16 (b + 5) 10 l4) fun x20 =>
    zbd (some (l2 + (Int32.toInt64 x20))) fun x21 =>
    zbd (some (l4 + 1)) fun x22 =>
    fX6_oddsAt_5 b a1 n l1 x21 x22 w16))
noncomputable def fX6_oddsAt (b : Nat) (a1 : Int32) (w : zz_W) : Option (Int64 × zz_W) :=
  zgrd (zisW b) <|
  fX6_oddsAt_5 b a1 zfuel a1 0 0 w
noncomputable def fX6_ofThousand (b : Nat) (a1 : Int64) (w : zz_W) : Option (Int32 × zz_W) :=
  zgrd (zisW b) <|
  zbd2 (fX6_allOdds b w) fun x5 w6 =>
    if 0 < (lg_cmp x5 0) then
    (zbd (zldiv (1000 * a1) x5) fun x8 =>
    some (Int64.toInt32 x8, w6))
    else
    (some (0, w6))
noncomputable def fX6_takeFrom_121 (b : Nat) (a1 : Nat) : Nat → Int32 → zz_W → Option (zz_W)
  | 0, _, _ => none
  | n + 1, l2, w =>
    if 14 ≤ l2 then
    (zbd (some (zgI w a1 9)) fun x32 =>
    zbd (some (zsI w b 9 x32)) fun w33 =>
    zbd (some (zgI w33 a1 10)) fun x34 =>
    zbd (some (zsI w33 b 10 x34)) fun w35 =>
    zbd (some (zgI w35 a1 11)) fun x36 =>
    zbd (some (zsI w35 b 11 x36)) fun w37 =>
    zbd (some (zgI w37 a1 12)) fun x38 =>
    zbd (some (zsI w37 b 12 x38)) fun w39 =>
    zbd (some (zgI w39 a1 13)) fun x40 =>
    zbd (some (zsI w39 b 13 x40)) fun w41 =>
    zbd (some (zgI w41 a1 14)) fun x42 =>
    zbd (some (zsI w41 b 14 x42)) fun w43 =>
    zbd (some (zgI w43 a1 15)) fun x44 =>
    zbd (some (zsI w43 b 15 x44)) fun w45 =>
    some w45)
    else
    (zbd (zldR w (a1 + 8) 14 l2) fun o46 =>
    zopt o46
    (zbd (zstR w (b + 8) 14 l2 none) fun w47 =>
    zbd (some (l2 + 1)) fun x48 =>
    fX6_takeFrom_121 b a1 n x48 w47)
    (fun q49 => zgrd (zisT w.2.2.2 q49) <|
    zbd (zstR w (b + 8) 14 l2 (some q49)) fun w51 =>
    zbd (some (l2 + 1)) fun x52 =>
    fX6_takeFrom_121 b a1 n x52 w51))
noncomputable def fX6_takeFrom (b : Nat) (a1 : Nat) (w : zz_W) : Option (zz_W) :=
  zgrd (zisW b) <|
  zgrd (zisW a1) <|
  zbd (zcpI w (a1 + 1) 10 0 (b + 1) 10 0 10) fun w53 =>
    zbd (zcpI w53 (a1 + 2) 10 0 (b + 2) 10 0 10) fun w54 =>
    zbd (zcpI w54 (a1 + 3) 10 0 (b + 3) 10 0 10) fun w55 =>
    zbd (zcpI w55 (a1 + 4) 10 0 (b + 4) 10 0 10) fun w56 =>
    zbd (zcpI w56 (a1 + 5) 10 0 (b + 5) 10 0 10) fun w57 =>
    zbd (zcpL w57 (a1 + 6) 10 0 (b + 6) 10 0 10) fun w58 =>
    zbd (zcpI w58 (a1 + 7) 7 0 (b + 7) 7 0 7) fun w59 =>
    zbd (zcpI w59 (a1 + 9) 3 0 (b + 9) 3 0 3) fun w60 =>
    fX6_takeFrom_121 b a1 zfuel 0 w60
noncomputable def fX7_as (a1 : Int32) (a2 : Int32) (w : zz_W) : Option (Int32 × zz_W) :=
  zbd2 (fX6_isRun 1 a1 w) fun x12 w13 =>
    if x12 = 0 then
    (some ((-1000000001), w13))
    else
    (zbd2 (fX7_isKind a2 w13) fun x15 w16 =>
    if x15 = 0 then
    (some ((-1000000001), w16))
    else
    (zbd (zldI w16 (1 + 1) 10 a1) fun x18 =>
    zbd2 (fX0_isUnder x18 a2 w16) fun x19 w20 =>
    if x19 = 0 then
    (some ((-1000000012), w20))
    else
    (zbd (zldI w20 (1 + 4) 10 a1) fun x22 =>
    some (x22, w20))))
noncomputable def fX7_isSlot (a1 : Int32) (w : zz_W) : Option (Int32 × zz_W) :=
  zbd2 (fX7_within a1 0 4 w) fun x4 w5 =>
    zbd (zboo x4) fun x6 =>
    some (x6, w5)
noncomputable def fX7_ask (a1 : Int32) (a2 : Int32) (w : zz_W) : Option (Int32 × zz_W) :=
  zbd2 (fX7_isSlot a1 w) fun x20 w21 =>
    if x20 = 0 then
    (some ((-1000000001), w21))
    else
    (zbd2 (fX7_isKind a2 w21) fun x23 w24 =>
    if x23 = 0 then
    (some ((-1000000001), w24))
    else
    (zbd (zldQ 5 a1 zq5) fun q26 =>
    zbd (some (zgI w24 q26 1)) fun x27 =>
    if x27 = 0 then
    (some ((-1000000011), w24))
    else
    (zbd (some (zgI w24 q26 1)) fun x29 =>
    if x29 = 1 then
    (zbd (some (zgI w24 q26 2)) fun x31 =>
    zbd2 (fX0_isUnder x31 a2 w24) fun x32 w33 =>
    if x32 = 0 then
    (some ((-1000000012), w33))
    else
    (zbd (some (zgI w33 q26 2)) fun x35 =>
    zbd (some (zgI w33 q26 3)) fun x36 =>
    zbd2 (fX0_worthOf x35 x36 w33) fun x37 w38 =>
    some (x37, w38)))
    else
    (some ((-1000000012), w24)))))
noncomputable def fX7_back (w : zz_W) : Option (Int32 × zz_W) :=
  zbd (some (zgI w 0 8)) fun x5 =>
    if x5 = 0 then
    (some ((-1000000002), w))
    else
    (zbd (fX6_takeFrom 1 11 w) fun w7 =>
    zbd (some (zgI w7 1 9)) fun x8 =>
    some (x8, w7))
noncomputable def fX7_behind_53 (a1 : Int32) (a2 : Int32) (l1 : Int32) (l2 : Int32) (w : zz_W) : Option (Int32 × zz_W) :=
    zbd (fX6_takeFrom 21 1 w) fun w22 =>
    zbd (fX6_goOn 21 l1 w22) fun w23 =>
    if l2 = 0 then
    (zbd (zldI w23 (21 + 7) 7 5) fun x24 =>
    some (x24, w23))
    else if l2 = 1 then
    (zbd (zldI w23 (21 + 7) 7 4) fun x26 =>
    some (x26, w23))
    else if l2 = 2 then
    (zbd2 (fX6_likeliest 21 w23) fun x28 w29 =>
    some (x28, w29))
    else 
    (zbd (zldI w23 (21 + 5) 10 (l2 - 3)) fun x31 =>
    some (x31, w23))
noncomputable def fX7_behind_35 (a1 : Int32) (a2 : Int32) (l1 : Int32) (l2 : Int32) (w : zz_W) : Option (Int32 × zz_W) :=
    if l2 = 2 then
    (zbd (some (zgI w 1 9)) fun x33 =>
    if x33 = 0 then
    (some ((-1000000005), w))
    else
    (fX7_behind_53 a1 a2 l1 l2 w))
    else
    (fX7_behind_53 a1 a2 l1 l2 w)
noncomputable def fX7_behind (a1 : Int32) (a2 : Int32) (w : zz_W) : Option (Int32 × zz_W) :=
  zbd2 (fX7_within a1 0 100 w) fun x35 w36 =>
    if x35 = 0 then
    (some ((-1000000001), w36))
    else
    (if a2 < 0 then
    (some ((-1000000001), w36))
    else
    (if a2 < 3 then
    (fX7_behind_35 a1 a2 a1 a2 w36)
    else
    (zbd2 (fX6_isRun 1 (a2 - 3) w36) fun x40 w41 =>
    if x40 = 0 then
    (some ((-1000000001), w41))
    else
    (fX7_behind_35 a1 a2 a1 a2 w41))))
noncomputable def fX7_build (w : zz_W) : Option (Int32 × zz_W) :=
  zbd (some (zgI w 1 9)) fun x5 =>
    if x5 = 0 then
    (some ((-1000000002), w))
    else
    (zbd (fX6_chooseTrue 1 w) fun w7 =>
    zbd (some (zgI w7 1 9)) fun x8 =>
    some (x8, w7))
noncomputable def fX7_chance (a1 : Int32) (w : zz_W) : Option (Int32 × zz_W) :=
  zbd2 (fX7_isCell a1 w) fun x10 w11 =>
    if x10 = 0 then
    (some ((-1000000001), w11))
    else
    (zbd (some (zgI w11 1 9)) fun x13 =>
    if x13 = 0 then
    (some ((-1000000005), w11))
    else
    (zbd2 (fX6_oddsAt 1 a1 w11) fun x15 w16 =>
    zbd2 (fX6_ofThousand 1 x15 w16) fun x17 w18 =>
    some (x17, w18)))
noncomputable def fX7_check_111 (a1 : Int32) (k65 : Int32 → Int32 → Int32 → zz_W → Option (Int32 × zz_W)) (l2 : Int32) (l3 : Int32) (l4 : Int32) (s0 : Int32) (w : zz_W) : Option (Int32 × zz_W) :=
    if l2 ≤ l4 then
    (some (1 + l4, w))
    else
    (zbd (zldI w 41 60 l4) fun x26 =>
    if x26 = s0 then
    (zbd (some (l4 + 1)) fun x28 =>
    k65 l2 l3 x28 w)
    else
    (some (1 + l4, w)))
noncomputable def fX7_check_85 (a1 : Int32) (k65 : Int32 → Int32 → Int32 → zz_W → Option (Int32 × zz_W)) (l2 : Int32) (l3 : Int32) (l4 : Int32) (w : zz_W) : Option (Int32 × zz_W) :=
    zbd (zrem l4 2) fun x29 =>
    if x29 = 0 then
    (zbd (zldI w (21 + 7) 7 5) fun x33 =>
    fX7_check_111 a1 k65 l2 l3 l4 x33 w)
    else
    (zbd2 (fX6_likeliest 21 w) fun x31 w32 =>
    fX7_check_111 a1 k65 l2 l3 l4 x31 w32)
noncomputable def fX7_check_65 (a1 : Int32) : Nat → Int32 → Int32 → Int32 → zz_W → Option (Int32 × zz_W)
  | 0, _, _, _, _ => none
  | n + 1, l2, l3, l4, w =>
    if l3 ≤ l4 then
    (if l2 = l3 then
    (some (0, w))
    else
    (some (1 + l3, w)))
    else
    (zbd (zrem l4 2) fun x36 =>
    if x36 = 0 then
    (zbd (fX6_takeStep 21 w) fun w38 =>
    fX7_check_85 a1 (fX7_check_65 a1 n) l2 l3 l4 w38)
    else
    (fX7_check_85 a1 (fX7_check_65 a1 n) l2 l3 l4 w))
noncomputable def fX7_check (a1 : Int32) (w : zz_W) : Option (Int32 × zz_W) :=
  zbd (some (zgI w 0 9)) fun x39 =>
    zbd (some (zsI w 0 9 0)) fun w40 =>
    zbd2 (fX7_within a1 1 30 w40) fun x41 w42 =>
    if x41 = 0 then
    (some ((-1000000001), w42))
    else
    (zbd (some (zgI w42 0 8)) fun x44 =>
    if x44 = 0 then
    (some ((-1000000002), w42))
    else
    (zbd (fX6_takeFrom 21 11 w42) fun w46 =>
    zbd (some (zgI w46 11 13)) fun x47 =>
    zbd (some (2 * (zmin a1 (9999 - x47)))) fun x48 =>
    fX7_check_65 a1 zfuel x39 x48 0 w46))
noncomputable def fX7_isSheet (a1 : Int32) (w : zz_W) : Option (Int32 × zz_W) :=
  zbd2 (fX7_within a1 0 3 w) fun x4 w5 =>
    zbd (zboo x4) fun x6 =>
    some (x6, w5)
noncomputable def fX7_copy (a1 : Int32) (a2 : Int32) (a3 : Int32) (a4 : Int32) (a5 : Int32) (w : zz_W) : Option (Int32 × zz_W) :=
  zbd2 (fX7_isSheet a1 w) fun x25 w26 =>
    if x25 = 0 then
    (some ((-1000000001), w26))
    else
    (zbd2 (fX7_isSheet a3 w26) fun x28 w29 =>
    if x28 = 0 then
    (some ((-1000000001), w29))
    else
    (zbd (zldQ 4 a1 zq4) fun q31 =>
    zbd (zldQ 4 a3 zq4) fun q32 =>
    zbd2 (fX2_isMissing q31 w29) fun x33 w34 =>
    if x33 = 0 then
    (zbd2 (fX2_isMissing q32 w34) fun x36 w37 =>
    if x36 = 0 then
    (zbd (some (zgI w37 q31 1)) fun x39 =>
    zbd (some (zgI w37 q32 1)) fun x40 =>
    if x39 = x40 then
    (zbd2 (fX2_hasPlaces q31 a2 a5 w37) fun x42 w43 =>
    if x42 = 0 then
    (some ((-1000000013), w43))
    else
    (zbd2 (fX2_hasPlaces q32 a4 a5 w43) fun x45 w46 =>
    if x45 = 0 then
    (some ((-1000000013), w46))
    else
    (zbd (zcpI w46 (q31 + 1) 24 a2 (q32 + 1) 24 a4 a5) fun w48 =>
    some (a5, w48))))
    else
    (some ((-1000000012), w37)))
    else
    (some ((-1000000011), w37)))
    else
    (some ((-1000000011), w34))))
noncomputable def fX7_count (a1 : Int32) (w : zz_W) : Option (Int32 × zz_W) :=
  if a1 = 0 then
    (zbd (some (zgI w 1 9)) fun x17 =>
    some (x17, w))
    else if a1 = 1 then
    (zbd (some (zgI w 1 13)) fun x19 =>
    some (x19, w))
    else if a1 = 2 then
    (zbd (some (zgI w 1 11)) fun x21 =>
    some (x21, w))
    else if a1 = 3 then
    (zbd (some (zgI w 1 12)) fun x23 =>
    some (x23, w))
    else if a1 = 4 then
    (zbd (some (zgI w 1 15)) fun x25 =>
    some (x25, w))
    else if a1 = 5 then
    (zbd (some (zgI w 0 9)) fun x27 =>
    some (x27, w))
    else if a1 = 6 then
    (zbd (some (zgI w 36 0)) fun x29 =>
    some (x29, w))
    else if a1 = 7 then
    (zbd (some (zgI w 1 14)) fun x31 =>
    some (x31, w))
    else 
    (some ((-1000000001), w))
noncomputable def fX7_deal_30 (a1 : Int32) : Nat → Int32 → Int32 → zz_W → Option (Int32 × zz_W)
  | 0, _, _, _ => none
  | n + 1, l2, l3, w =>
    if l2 ≤ l3 then
    (some (l2, w))
    else
    (zbd (fX6_drawRun 1 w) fun w10 =>
    zbd (some (l3 + 1)) fun x11 =>
    fX7_deal_30 a1 n l2 x11 w10)
noncomputable def fX7_deal (a1 : Int32) (w : zz_W) : Option (Int32 × zz_W) :=
  zbd2 (fX7_within a1 1 10 w) fun x12 w13 =>
    if x12 = 0 then
    (some ((-1000000001), w13))
    else
    (zbd (some (zgI w13 1 9)) fun x15 =>
    zbd (some (zmin a1 (10 - x15))) fun x16 =>
    fX7_deal_30 a1 zfuel x16 0 w13)
noncomputable def fX7_isDepth (a1 : Int32) (w : zz_W) : Option (Int32 × zz_W) :=
  zbd2 (fX7_within a1 1 9 w) fun x4 w5 =>
    zbd (zboo x4) fun x6 =>
    some (x6, w5)
noncomputable def fX7_drill (a1 : Int32) (a2 : Int32) (w : zz_W) : Option (Int32 × zz_W) :=
  zbd2 (fX7_isCell a1 w) fun x12 w13 =>
    if x12 = 0 then
    (some ((-1000000001), w13))
    else
    (zbd2 (fX7_isDepth a2 w13) fun x15 w16 =>
    if x15 = 0 then
    (some ((-1000000001), w16))
    else
    (zbd2 (fX6_isBuilt 1 w16) fun x18 w19 =>
    if x18 = 0 then
    (some ((-1000000002), w19))
    else
    (zbd2 (fX6_drillAt 1 a1 a2 w19) fun x21 w22 =>
    some (x21, w22))))
noncomputable def fX7_exchange (a1 : Nat) (a2 : Int32) (a3 : Int32) (w : zz_W) : Option (Int32 × zz_W) :=
  zgrd (zisX a1 (.inl (0, 10))) <|
  zbd (zldI w a1 10 a2) fun x3 =>
    zbd (zstI w a1 10 a2 a3) fun w4 =>
    some (x3, w4)
noncomputable def fX7_fee (w : zz_W) : Option (Int32 × zz_W) :=
  zbd (zldI w (1 + 7) 7 0) fun x6 =>
    zbd (zldI w (1 + 7) 7 0) fun x7 =>
    zbd (zldI w (1 + 7) 7 3) fun x8 =>
    zbd2 (fX6_lawOr 1 x6 1 x7 x8 0 w) fun x9 w10 =>
    some (x9, w10)
noncomputable def fX7_feed (a1 : Int32) (a2 : Int32) (a3 : Int32) (w : zz_W) : Option (Int32 × zz_W) :=
  zbd (some (zgI w 36 0)) fun x7 =>
    if x7 ≤ 84 then
    (zbd (fX4_addBytes a1 w) fun w9 =>
    zbd (fX4_addBytes a2 w9) fun w10 =>
    zbd (fX4_addBytes a3 w10) fun w11 =>
    zbd (some (zgI w11 36 0)) fun x12 =>
    some (x12, w11))
    else
    (some ((-1000000003), w))
noncomputable def fX7_fine (a1 : Int32) (w : zz_W) : Option (Int32 × zz_W) :=
  zbd2 (fX6_isRun 1 a1 w) fun x9 w10 =>
    if x9 = 0 then
    (some ((-1000000001), w10))
    else
    (zbd (zldI w10 (1 + 5) 10 a1) fun x12 =>
    zbd (zldI w10 (1 + 5) 10 a1) fun x13 =>
    zbd (zldI w10 (1 + 4) 10 a1) fun x14 =>
    zbd2 (fX6_lawOr 1 x12 2 x13 x14 0 w10) fun x15 w16 =>
    some (x15, w16))
noncomputable def fX7_fits_72 (a1 : Int32) (a2 : Int32) : Nat → Int32 → Int32 → Int32 → Int32 → Int32 → zz_W → Option (Int32 × zz_W)
  | 0, _, _, _, _, _, _ => none
  | n + 1, l1, l2, l3, l4, l5, w =>
    zbd (some (zgI w 1 9)) fun x27 =>
    if x27 ≤ l5 then
    (if l2 = 0 then
    (some (l3, w))
    else
    (some (l4, w)))
    else
    (zbd (zldQ 4 l1 zq4) fun q30 =>
    zbd (zldL w (1 + 6) 10 l5) fun x31 =>
    zbd2 (fX2_placesOn q30 x31 w) fun x32 w33 =>
    if x32 ≤ l4 then
    (zbd (some (l5 + 1)) fun x35 =>
    fX7_fits_72 a1 a2 n l1 l2 l3 l4 x35 w33)
    else
    (zbd (some (l5 + 1)) fun x36 =>
    fX7_fits_72 a1 a2 n l1 l2 l5 x32 x36 w33))
noncomputable def fX7_fits (a1 : Int32) (a2 : Int32) (w : zz_W) : Option (Int32 × zz_W) :=
  zbd2 (fX7_isSheet a1 w) fun x37 w38 =>
    if x37 = 0 then
    (some ((-1000000001), w38))
    else
    (zbd2 (fX7_within a2 0 1 w38) fun x40 w41 =>
    if x40 = 0 then
    (some ((-1000000001), w41))
    else
    (zbd (zldQ 4 a1 zq4) fun q43 =>
    zbd2 (fX2_isMissing q43 w41) fun x44 w45 =>
    if x44 = 0 then
    (zbd (some (zgI w45 1 9)) fun x47 =>
    if x47 = 0 then
    (some ((-1000000005), w45))
    else
    (zbd (zldQ 4 a1 zq4) fun q49 =>
    zbd (zldL w45 (1 + 6) 10 0) fun x50 =>
    zbd2 (fX2_placesOn q49 x50 w45) fun x51 w52 =>
    fX7_fits_72 a1 a2 zfuel a1 a2 0 x51 1 w52))
    else
    (some ((-1000000011), w45))))
noncomputable def fX7_house (a1 : Int32) (w : zz_W) : Option (Int32 × zz_W) :=
  zbd2 (fX7_within a1 0 6 w) fun x18 w19 =>
    if x18 = 0 then
    (if a1 = 7 then
    (zbd2 (fX6_isBuilt 1 w19) fun x21 w22 =>
    if x21 = 0 then
    (some (0, w22))
    else
    (some (1, w22)))
    else if a1 = 8 then
    (zbd (some (zgI w19 1 9)) fun x25 =>
    if x25 = 0 then
    (some ((-1000000005), w19))
    else
    (zbd2 (fX6_likeliest 1 w19) fun x27 w28 =>
    some (x27, w28)))
    else if a1 = 9 then
    (zbd2 (fX6_isKnown 1 w19) fun x30 w31 =>
    if x30 = 0 then
    (some (0, w31))
    else
    (some (1, w31)))
    else 
    (some ((-1000000001), w19)))
    else
    (zbd (zldI w19 (1 + 7) 7 a1) fun x34 =>
    some (x34, w19))
noncomputable def fX7_isSort (a1 : Int32) (w : zz_W) : Option (Int32 × zz_W) :=
  zbd2 (fX7_within a1 0 3 w) fun x4 w5 =>
    zbd (zboo x4) fun x6 =>
    some (x6, w5)
noncomputable def fX7_item (a1 : Int32) (a2 : Int32) (w : zz_W) : Option (Int32 × zz_W) :=
  zbd2 (fX7_isSlot a1 w) fun x16 w17 =>
    if x16 = 0 then
    (some ((-1000000001), w17))
    else
    (zbd (zldQ 5 a1 zq5) fun q19 =>
    zbd (some (zgI w17 q19 1)) fun x20 =>
    if x20 = 0 then
    (some ((-1000000011), w17))
    else
    (zbd (some (zgI w17 q19 1)) fun x22 =>
    if x22 = 2 then
    (zbd2 (fX2_hasPlace (q19 + 1) a2 w17) fun x24 w25 =>
    if x24 = 0 then
    (some ((-1000000013), w25))
    else
    (zbd2 (fX2_isNumber (q19 + 1) a2 w25) fun x27 w28 =>
    if x27 = 0 then
    (some ((-1000000012), w28))
    else
    (zbd (zldI w28 ((q19 + 1) + 1) 24 a2) fun x30 =>
    some (x30, w28))))
    else
    (some ((-1000000012), w17))))
noncomputable def fX7_keep (w : zz_W) : Option (Int32 × zz_W) :=
  zbd (fX6_takeFrom 11 1 w) fun w4 =>
    zbd (some (zsI w4 0 8 1)) fun w5 =>
    zbd (some (zgI w5 1 9)) fun x6 =>
    some (x6, w5)
noncomputable def fX7_lay_70 (a1 : Int32) (a2 : Int32) (a3 : Int32) (l1 : Int32) (l2 : Int32) (l3 : Int32) (w : zz_W) : Option (Int32 × zz_W) :=
    zbd (zldQ 5 l1 zq5) fun q32 =>
    zbd (some (zgI w q32 1)) fun x33 =>
    zbd (some (zsI w q32 1 l2)) fun w34 =>
    if l2 = 1 then
    (zbd (zldI w34 (1 + 1) 10 l3) fun x40 =>
    zbd (some (zsI w34 q32 2 x40)) fun w41 =>
    zbd (zldI w41 (1 + 4) 10 l3) fun x42 =>
    zbd (some (zsI w41 q32 3 x42)) fun w43 =>
    some (x33, w43))
    else
    (if l2 = 2 then
    (zbd (zldQ 4 l3 zq4) fun q38 =>
    zbd (fX2_takeFrom (q32 + 1) q38 w34) fun w39 =>
    some (x33, w39))
    else
    (zbd (some (zsI w34 q32 4 l3)) fun w37 =>
    some (x33, w37)))
noncomputable def fX7_lay_50 (a1 : Int32) (a2 : Int32) (a3 : Int32) (l1 : Int32) (l2 : Int32) (l3 : Int32) (w : zz_W) : Option (Int32 × zz_W) :=
    if l2 = 2 then
    (zbd (zldQ 4 l3 zq4) fun q45 =>
    zbd2 (fX2_isMissing q45 w) fun x46 w47 =>
    if x46 = 0 then
    (fX7_lay_70 a1 a2 a3 l1 l2 l3 w47)
    else
    (some ((-1000000011), w47)))
    else
    (fX7_lay_70 a1 a2 a3 l1 l2 l3 w)
noncomputable def fX7_lay_35 (a1 : Int32) (a2 : Int32) (a3 : Int32) (l1 : Int32) (l2 : Int32) (l3 : Int32) (w : zz_W) : Option (Int32 × zz_W) :=
    if l2 = 2 then
    (zbd2 (fX7_isSheet l3 w) fun x50 w51 =>
    if x50 = 0 then
    (some ((-1000000001), w51))
    else
    (fX7_lay_50 a1 a2 a3 l1 l2 l3 w51))
    else
    (fX7_lay_50 a1 a2 a3 l1 l2 l3 w)
noncomputable def fX7_lay (a1 : Int32) (a2 : Int32) (a3 : Int32) (w : zz_W) : Option (Int32 × zz_W) :=
  zbd2 (fX7_isSlot a1 w) fun x53 w54 =>
    if x53 = 0 then
    (some ((-1000000001), w54))
    else
    (zbd2 (fX7_within a2 0 3 w54) fun x56 w57 =>
    if x56 = 0 then
    (some ((-1000000001), w57))
    else
    (if a2 = 1 then
    (zbd2 (fX6_isRun 1 a3 w57) fun x60 w61 =>
    if x60 = 0 then
    (some ((-1000000001), w61))
    else
    (fX7_lay_35 a1 a2 a3 a1 a2 a3 w61))
    else
    (fX7_lay_35 a1 a2 a3 a1 a2 a3 w57)))
noncomputable def fX7_makePlan (a1 : Int32) (a2 : Int32) (w : zz_W) : Option (Int32 × zz_W) :=
  zbd (zldQ 4 a1 zq4) fun q11 =>
    zbd2 (fX2_isMissing q11 w) fun x12 w13 =>
    if x12 = 0 then
    (zbd (some (zgI w13 1 9)) fun x15 =>
    if x15 = 0 then
    (some ((-1000000005), w13))
    else
    (zbd (fX1_wish q11 w13) fun w17 =>
    zbd (some (zgI w17 31 0)) fun x18 =>
    if x18 = 0 then
    (some ((-1000000005), w17))
    else
    (zbd (fX1_weigh 1 a2 w17) fun w20 =>
    some (0, w20))))
    else
    (some ((-1000000011), w13))
noncomputable def fX7_learn (a1 : Int32) (a2 : Int32) (a3 : Int32) (a4 : Int32) (w : zz_W) : Option (Int32 × zz_W) :=
  zbd2 (fX7_isSort a1 w) fun x18 w19 =>
    if x18 = 0 then
    (some ((-1000000001), w19))
    else
    (zbd2 (fX7_isCell a2 w19) fun x21 w22 =>
    if x21 = 0 then
    (some ((-1000000001), w22))
    else
    (zbd2 (fX7_isSheet a3 w22) fun x24 w25 =>
    if x24 = 0 then
    (some ((-1000000001), w25))
    else
    (zbd2 (fX7_isDepth a4 w25) fun x27 w28 =>
    if x27 = 0 then
    (some ((-1000000001), w28))
    else
    (zbd2 (fX7_makePlan a3 a4 w28) fun x30 w31 =>
    if x30 = 0 then
    (zbd2 (fX1_learnBy 1 a1 a2 w31) fun x33 w34 =>
    some (x33, w34))
    else
    (some (x30, w31))))))
noncomputable def fX7_mark_91 (a1 : Int32) (a2 : Int32) (a3 : Int32) (l2 : Int32) (l3 : Int32) (l4 : Nat) (w : zz_W) : Option (Int32 × zz_W) :=
    zgrd (zisS l4) <|
    zbd (zstI w (l4 + 1) 24 l2 l3) fun w20 =>
    some (1, w20)
noncomputable def fX7_mark (a1 : Int32) (a2 : Int32) (a3 : Int32) (w : zz_W) : Option (Int32 × zz_W) :=
  zbd2 (fX7_isSheet a1 w) fun x21 w22 =>
    if x21 = 0 then
    (some ((-1000000001), w22))
    else
    (zbd (zldQ 4 a1 zq4) fun q24 =>
    zbd2 (fX2_isMissing q24 w22) fun x25 w26 =>
    if x25 = 0 then
    (zbd2 (fX2_hasPlace q24 a2 w26) fun x28 w29 =>
    if x28 = 0 then
    (some ((-1000000013), w29))
    else
    (zbd (some (zgI w29 q24 1)) fun x31 =>
    if x31 = 0 then
    (if a3 = (-1000000005) then
    (some ((-1000000012), w29))
    else
    (zbd (zstI w29 (q24 + 1) 24 a2 ((Int32.toInt16 a3).toInt32)) fun w38 =>
    some (1, w38)))
    else
    (if a3 = (-1000000005) then
    (fX7_mark_91 a1 a2 a3 a2 a3 q24 w29)
    else
    (zbd2 (fX7_within a3 (-99999) 99999 w29) fun x34 w35 =>
    if x34 = 0 then
    (some ((-1000000001), w35))
    else
    (fX7_mark_91 a1 a2 a3 a2 a3 q24 w35)))))
    else
    (some ((-1000000011), w26)))
noncomputable def fX7_passes (a1 : Int32) (a2 : Int32) (w : zz_W) : Option (Int32 × zz_W) :=
  zbd2 (fX6_isRun 1 a1 w) fun x10 w11 =>
    if x10 = 0 then
    (some ((-1000000001), w11))
    else
    (zbd2 (fX7_within a2 0 5 w11) fun x13 w14 =>
    if x13 = 0 then
    (some ((-1000000001), w14))
    else
    (zbd (zldL w14 (1 + 6) 10 a1) fun x16 =>
    zbd2 (fX0_columnsIn x16 a2 w14) fun x17 w18 =>
    some (x17, w18)))
noncomputable def fX7_pour_32 (a1 : Int32) : Nat → Nat → Int32 → Int32 → zz_W → Option (Int32 × zz_W)
  | 0, _, _, _, _ => none
  | n + 1, l2, l3, l4, w =>
    zgrd (zisS l2) <|
    zbd (some (zgI w 1 9)) fun x26 =>
    if x26 ≤ l4 then
    (some (l3, w))
    else
    (zbd (some (zgI w l2 2)) fun x28 =>
    if x28 ≤ l4 then
    (some (l3, w))
    else
    (zbd2 (fX2_isNumber l2 l4 w) fun x30 w31 =>
    if x30 = 0 then
    (zbd (some (l4 + 1)) fun x33 =>
    fX7_pour_32 a1 n l2 l3 x33 w31)
    else
    (zbd (zldI w31 (l2 + 1) 24 l4) fun x34 =>
    zbd2 (fX7_held x34 1 99 w31) fun x35 w36 =>
    zbd2 (fX7_exchange (1 + 3) l4 x35 w36) fun x37 w38 =>
    if x37 = x35 then
    (zbd (some (l3 + 0)) fun x42 =>
    zbd (some (l4 + 1)) fun x43 =>
    fX7_pour_32 a1 n l2 x42 x43 w38)
    else
    (zbd (some (l3 + 1)) fun x40 =>
    zbd (some (l4 + 1)) fun x41 =>
    fX7_pour_32 a1 n l2 x40 x41 w38))))
noncomputable def fX7_pour (a1 : Int32) (w : zz_W) : Option (Int32 × zz_W) :=
  zbd2 (fX7_isSheet a1 w) fun x44 w45 =>
    if x44 = 0 then
    (some ((-1000000001), w45))
    else
    (zbd (zldQ 4 a1 zq4) fun q47 =>
    zbd2 (fX2_isMissing q47 w45) fun x48 w49 =>
    if x48 = 0 then
    (fX7_pour_32 a1 zfuel q47 0 0 w49)
    else
    (some ((-1000000011), w49)))
noncomputable def fX7_probe (a1 : Int32) (a2 : Int32) (w : zz_W) : Option (Int32 × zz_W) :=
  zbd2 (fX7_isSort a1 w) fun x12 w13 =>
    if x12 = 0 then
    (some ((-1000000001), w13))
    else
    (zbd2 (fX7_isCell a2 w13) fun x15 w16 =>
    if x15 = 0 then
    (some ((-1000000001), w16))
    else
    (zbd2 (fX6_isBuilt 1 w16) fun x18 w19 =>
    if x18 = 0 then
    (some ((-1000000002), w19))
    else
    (zbd2 (fX6_testAt 1 a1 a2 w19) fun x21 w22 =>
    some (x21, w22))))
noncomputable def fX7_reads_29 (a1 : Int32) : Nat → Nat → Int32 → zz_W → Option (Int32 × zz_W)
  | 0, _, _, _ => none
  | n + 1, l2, l3, w =>
    zgrd (zisS l2) <|
    zbd (some (zgI w l2 2)) fun x21 =>
    if x21 ≤ l3 then
    (some ((-1000000005), w))
    else
    (zbd2 (fX2_isNumber l2 l3 w) fun x23 w24 =>
    if x23 = 0 then
    (zbd (some (l3 + 1)) fun x26 =>
    fX7_reads_29 a1 n l2 x26 w24)
    else
    (zbd2 (fX6_isRun 1 l3 w24) fun x27 w28 =>
    if x27 = 0 then
    (some (l3, w28))
    else
    (zbd (zldI w28 (l2 + 1) 24 l3) fun x30 =>
    zbd (zldI w28 (1 + 4) 10 l3) fun x31 =>
    if x30 = x31 then
    (zbd (some (l3 + 1)) fun x33 =>
    fX7_reads_29 a1 n l2 x33 w28)
    else
    (some (l3, w28)))))
noncomputable def fX7_reads (a1 : Int32) (w : zz_W) : Option (Int32 × zz_W) :=
  zbd2 (fX7_isSheet a1 w) fun x34 w35 =>
    if x34 = 0 then
    (some ((-1000000001), w35))
    else
    (zbd (zldQ 4 a1 zq4) fun q37 =>
    zbd2 (fX2_isMissing q37 w35) fun x38 w39 =>
    if x38 = 0 then
    (fX7_reads_29 a1 zfuel q37 0 w39)
    else
    (some ((-1000000011), w39)))
noncomputable def fX7_rest (a1 : Int32) (a2 : Int32) (w : zz_W) : Option (Int32 × zz_W) :=
  zbd2 (fX7_isSlot a1 w) fun x12 w13 =>
    if x12 = 0 then
    (some ((-1000000001), w13))
    else
    (zbd (zldQ 5 a1 zq5) fun q15 =>
    zbd (some (zgI w13 q15 1)) fun x16 =>
    if x16 = 0 then
    (some ((-1000000011), w13))
    else
    (zbd (some (zgI w13 q15 1)) fun x18 =>
    if x18 = 3 then
    (if a2 = 0 then
    (some ((-1000000002), w13))
    else
    (zbd (some (zgI w13 q15 4)) fun x21 =>
    zbd (zrem x21 a2) fun x22 =>
    some (x22, w13)))
    else
    (some ((-1000000012), w13))))
noncomputable def fX7_risk (a1 : Int32) (a2 : Int32) (w : zz_W) : Option (Int32 × zz_W) :=
  zbd2 (fX7_isCell a1 w) fun x13 w14 =>
    if x13 = 0 then
    (some ((-1000000001), w14))
    else
    (zbd2 (fX7_isDepth a2 w14) fun x16 w17 =>
    if x16 = 0 then
    (some ((-1000000001), w17))
    else
    (zbd (some (zgI w17 1 9)) fun x19 =>
    if x19 = 0 then
    (some ((-1000000005), w17))
    else
    (zbd2 (fX6_lossAt 1 a1 a2 w17) fun x21 w22 =>
    zbd2 (fX6_ofThousand 1 x21 w22) fun x23 w24 =>
    some (x23, w24))))
noncomputable def fX7_rule_33 (a1 : Int32) (a2 : Int32) (l1 : Int32) (l2 : Int32) (w : zz_W) : Option (Int32 × zz_W) :=
    if l1 = 1 then
    (zbd2 (fX7_within l2 0 1 w) fun x17 w18 =>
    if x17 = 0 then
    (zbd (some (-1000000001)) fun x20 =>
    some (x20, w18))
    else
    (zbd (some (zgI w18 1 12)) fun x21 =>
    zbd (some (zsI w18 1 12 l2)) fun w22 =>
    some (x21, w22)))
    else
    (zbd (some (-1000000001)) fun x16 =>
    some (x16, w))
noncomputable def fX7_rule (a1 : Int32) (a2 : Int32) (w : zz_W) : Option (Int32 × zz_W) :=
  if a1 = 0 then
    (zbd2 (fX7_within a2 0 49 w) fun x24 w25 =>
    if x24 = 0 then
    (fX7_rule_33 a1 a2 a1 a2 w25)
    else
    (zbd (some (zgI w25 1 11)) fun x27 =>
    zbd (some (zsI w25 1 11 a2)) fun w28 =>
    some (x27, w28)))
    else
    (fX7_rule_33 a1 a2 a1 a2 w)
noncomputable def fX7_run (a1 : Int32) (a2 : Int32) (a3 : Int32) (a4 : Int32) (w : zz_W) : Option (Int32 × zz_W) :=
  zbd2 (fX7_isKind a1 w) fun x17 w18 =>
    if x17 = 0 then
    (some ((-1000000001), w18))
    else
    (zbd2 (fX7_isCell a2 w18) fun x20 w21 =>
    if x20 = 0 then
    (some ((-1000000001), w21))
    else
    (zbd2 (fX7_within a3 1 99 w21) fun x23 w24 =>
    if x23 = 0 then
    (some ((-1000000001), w24))
    else
    (zbd2 (fX7_isDepth a4 w24) fun x26 w27 =>
    if x26 = 0 then
    (some ((-1000000001), w27))
    else
    (zbd (some (zgI w27 1 9)) fun x29 =>
    if x29 < 10 then
    (zbd (fX6_addRun 1 a1 a2 a3 a4 w27) fun w31 =>
    zbd (some (zgI w31 1 9)) fun x32 =>
    some (x32 - 1, w31))
    else
    (some ((-1000000003), w27))))))
noncomputable def fX7_safe_36 (a1 : Int32) (a2 : Int32) : Nat → Int32 → Int32 → Int32 → zz_W → Option (Int32 × zz_W)
  | 0, _, _, _, _ => none
  | n + 1, l1, l2, l3, w =>
    if l3 ≤ 0 then
    (some (0, w))
    else
    (zbd2 (fX6_lossAt 1 l1 l3 w) fun x17 w18 =>
    zbd2 (fX6_ofThousand 1 x17 w18) fun x19 w20 =>
    if l2 < x19 then
    (zbd (some (l3 + (-1))) fun x22 =>
    fX7_safe_36 a1 a2 n l1 l2 x22 w20)
    else
    (some (l3, w20)))
noncomputable def fX7_safe (a1 : Int32) (a2 : Int32) (w : zz_W) : Option (Int32 × zz_W) :=
  zbd2 (fX7_isCell a1 w) fun x23 w24 =>
    if x23 = 0 then
    (some ((-1000000001), w24))
    else
    (zbd2 (fX7_within a2 0 99999 w24) fun x26 w27 =>
    if x26 = 0 then
    (some ((-1000000001), w27))
    else
    (zbd (some (zgI w27 1 9)) fun x29 =>
    if x29 = 0 then
    (some ((-1000000005), w27))
    else
    (fX7_safe_36 a1 a2 zfuel a1 a2 9 w27)))
noncomputable def fX7_seed (a1 : Int32) (w : zz_W) : Option (Int32 × zz_W) :=
  zbd (some (zgI w 1 14)) fun x3 =>
    zbd (some (zsI w 1 14 a1)) fun w4 =>
    some (x3, w4)
noncomputable def fX7_setCell (a1 : Int32) (a2 : Int32) (w : zz_W) : Option (Int32 × zz_W) :=
  zbd2 (fX7_isCell a2 w) fun x7 w8 =>
    if x7 = 0 then
    (some ((-1000000001), w8))
    else
    (zbd (zldI w8 (1 + 2) 10 a1) fun x10 =>
    zbd (zldI w8 (1 + 1) 10 a1) fun x11 =>
    zbd (fX6_shape 1 a1 x11 a2 w8) fun w12 =>
    some (x10, w12))
noncomputable def fX7_set (a1 : Int32) (a2 : Int32) (a3 : Int32) (w : zz_W) : Option (Int32 × zz_W) :=
  zbd2 (fX6_isRun 1 a1 w) fun x19 w20 =>
    if x19 = 0 then
    (some ((-1000000001), w20))
    else
    (if a2 = 1 then
    (zbd2 (fX7_setCell a1 a3 w20) fun x22 w23 =>
    some (x22, w23))
    else if a2 = 2 then
    (zbd2 (fX7_within a3 1 99 w20) fun x25 w26 =>
    if x25 = 0 then
    (some ((-1000000001), w26))
    else
    (zbd2 (fX7_exchange (1 + 3) a1 a3 w26) fun x28 w29 =>
    some (x28, w29)))
    else if a2 = 3 then
    (zbd2 (fX7_isDepth a3 w20) fun x31 w32 =>
    if x31 = 0 then
    (some ((-1000000001), w32))
    else
    (zbd2 (fX7_exchange (1 + 4) a1 a3 w32) fun x34 w35 =>
    some (x34, w35)))
    else 
    (some ((-1000000001), w20)))
noncomputable def fX7_sheet (a1 : Int32) (a2 : Int32) (a3 : Int32) (w : zz_W) : Option (Int32 × zz_W) :=
  zbd2 (fX7_isSheet a1 w) fun x14 w15 =>
    if x14 = 0 then
    (some ((-1000000001), w15))
    else
    (zbd2 (fX7_within a2 (-1) 1 w15) fun x17 w18 =>
    if x17 = 0 then
    (some ((-1000000001), w18))
    else
    (if a2 = (-1) then
    (zbd (zldQ 4 a1 zq4) fun q25 =>
    zbd (fX2_renew q25 a2 0 w18) fun w26 =>
    some (0, w26))
    else
    (if a3 ≤ 24 then
    (if 0 ≤ a3 then
    (zbd (zldQ 4 a1 zq4) fun q23 =>
    zbd (fX2_renew q23 a2 a3 w18) fun w24 =>
    some (a3, w24))
    else
    (some ((-1000000014), w18)))
    else
    (some ((-1000000001), w18)))))
noncomputable def fX7_trueShareBehind (a1 : Int32) (a2 : Int32) (w : zz_W) : Option (Int32 × zz_W) :=
  zbd (fX6_takeFrom 21 1 w) fun w11 =>
    zbd (some (zsI w11 21 11 a2)) fun w12 =>
    zbd (fX6_goOn 21 a1 w12) fun w13 =>
    zbd2 (fX6_isBuilt 21 w13) fun x14 w15 =>
    if x14 = 0 then
    (some (0, w15))
    else
    (zbd (some (zgI w15 21 10)) fun x17 =>
    zbd (zldI w15 (21 + 5) 10 x17) fun x18 =>
    zbd2 (fX6_ofThousand 21 (Int32.toInt64 x18) w15) fun x19 w20 =>
    some (x19, w20))
noncomputable def fX7_slipped_43 (a1 : Int32) (a2 : Int32) : Nat → Int32 → Int32 → Int32 → Int32 → Int32 → zz_W → Option (Int32 × zz_W)
  | 0, _, _, _, _, _, _ => none
  | n + 1, l1, l2, l3, l4, l5, w =>
    if 49 < l5 then
    (if l2 = 0 then
    (some (l3, w))
    else
    (some (l4, w)))
    else
    (zbd2 (fX7_trueShareBehind l1 l5 w) fun x20 w21 =>
    if x20 ≤ l4 then
    (zbd (some (l5 + 1)) fun x23 =>
    fX7_slipped_43 a1 a2 n l1 l2 l3 l4 x23 w21)
    else
    (zbd (some (l5 + 1)) fun x24 =>
    fX7_slipped_43 a1 a2 n l1 l2 l5 x20 x24 w21))
noncomputable def fX7_slipped (a1 : Int32) (a2 : Int32) (w : zz_W) : Option (Int32 × zz_W) :=
  zbd2 (fX7_within a1 1 30 w) fun x25 w26 =>
    if x25 = 0 then
    (some ((-1000000001), w26))
    else
    (zbd2 (fX7_within a2 0 1 w26) fun x28 w29 =>
    if x28 = 0 then
    (some ((-1000000001), w29))
    else
    (zbd2 (fX6_isBuilt 1 w29) fun x31 w32 =>
    if x31 = 0 then
    (some ((-1000000002), w32))
    else
    (zbd (some (-1)) fun x34 =>
    fX7_slipped_43 a1 a2 zfuel a1 a2 0 x34 0 w32)))
noncomputable def fX7_steps (a1 : Int32) (w : zz_W) : Option (Int32 × zz_W) :=
  zbd2 (fX7_within a1 1 100 w) fun x8 w9 =>
    if x8 = 0 then
    (some ((-1000000001), w9))
    else
    (zbd (zldI w9 (1 + 7) 7 4) fun x11 =>
    zbd (some (zgI w9 1 13)) fun x12 =>
    zbd (fX6_goOn 1 (zmin a1 (9999 - x12)) w9) fun w13 =>
    zbd (zldI w13 (1 + 7) 7 4) fun x14 =>
    some (x14 - x11, w13))
noncomputable def fX7_tell (a1 : Int32) (w : zz_W) : Option (Int32 × zz_W) :=
  zbd (some (zgI w 0 9)) fun x8 =>
    if x8 < 60 then
    (zbd (some (zgI w 0 9)) fun x10 =>
    zbd (zstI w 41 60 x10 a1) fun w11 =>
    zbd (some (zgI w11 0 9)) fun x12 =>
    zbd (some (zsI w11 0 9 (x12 + 1))) fun w13 =>
    zbd (some (zgI w13 0 9)) fun x14 =>
    some (x14, w13))
    else
    (some ((-1000000003), w))
noncomputable def fX7_tells (a1 : Int32) (a2 : Int32) (a3 : Int32) (w : zz_W) : Option (Int32 × zz_W) :=
  zbd2 (fX6_isRun 1 a1 w) fun x12 w13 =>
    if x12 = 0 then
    (some ((-1000000001), w13))
    else
    (zbd2 (fX7_isSort a2 w13) fun x15 w16 =>
    if x15 = 0 then
    (some ((-1000000001), w16))
    else
    (zbd2 (fX7_isCell a3 w16) fun x18 w19 =>
    if x18 = 0 then
    (some ((-1000000001), w19))
    else
    (zbd2 (fX6_wouldTell 1 a1 a2 a3 w19) fun x21 w22 =>
    some (x21, w22))))
noncomputable def fX7_textTold (a1 : Int32) (a2 : Int32) (w : zz_W) : Option (Int32 × zz_W) :=
  zbd (some (zgI w 1 15)) fun x15 =>
    zbd2 (fX7_within a1 0 (x15 - 1) w) fun x16 w17 =>
    if x16 = 0 then
    (some ((-1000000001), w17))
    else
    (zbd2 (fX7_within a2 0 1 w17) fun x19 w20 =>
    if x19 = 0 then
    (some ((-1000000001), w20))
    else
    (zbd (zldR w20 (1 + 8) 14 a1) fun o22 =>
    zopt o22
    (some ((-1000000001), w20))
    (fun q23 => if a2 = 0 then
    (zgrd (zisT w20.2.2.2 q23) <|
    zbd (some (zgI w20 q23 0)) fun x28 =>
    some (x28, w20))
    else
    (zgrd (zisT w20.2.2.2 q23) <|
    zbd (some (zgI w20 q23 1)) fun x26 =>
    some (x26, w20)))))
noncomputable def fJ13_bitCount_95d88 (a1 : Int64) (w : zz_W) : Option (Int32 × zz_W) :=
  zbd (some (a1 - (((a1.toUInt64 >>> ((Int32.toInt64 1).toUInt64 &&& Int64.toUInt64 63)).toInt64) &&& 6148914691236517205))) fun x7 =>
    zbd (some ((x7 &&& 3689348814741910323) + (((x7.toUInt64 >>> ((Int32.toInt64 2).toUInt64 &&& Int64.toUInt64 63)).toInt64) &&& 3689348814741910323))) fun x8 =>
    zbd (some ((x8 + ((x8.toUInt64 >>> ((Int32.toInt64 4).toUInt64 &&& Int64.toUInt64 63)).toInt64)) &&& 1085102592571150095)) fun x9 =>
    zbd (some (x9 + ((x9.toUInt64 >>> ((Int32.toInt64 8).toUInt64 &&& Int64.toUInt64 63)).toInt64))) fun x10 =>
    zbd (some (x10 + ((x10.toUInt64 >>> ((Int32.toInt64 16).toUInt64 &&& Int64.toUInt64 63)).toInt64))) fun x11 =>
    zbd (some (x11 + ((x11.toUInt64 >>> ((Int32.toInt64 32).toUInt64 &&& Int64.toUInt64 63)).toInt64))) fun x12 =>
    some ((Int64.toInt32 x12) &&& 127, w)
noncomputable def fX7_told (a1 : Int32) (a2 : Int32) (w : zz_W) : Option (Int32 × zz_W) :=
  zbd2 (fX6_isRun 1 a1 w) fun x26 w27 =>
    if x26 = 0 then
    (some ((-1000000001), w27))
    else
    (if a2 = 0 then
    (zbd (zldI w27 (1 + 1) 10 a1) fun x29 =>
    some (x29, w27))
    else if a2 = 1 then
    (zbd (zldI w27 (1 + 2) 10 a1) fun x31 =>
    some (x31, w27))
    else if a2 = 2 then
    (zbd (zldI w27 (1 + 3) 10 a1) fun x33 =>
    some (x33, w27))
    else if a2 = 3 then
    (zbd (zldI w27 (1 + 4) 10 a1) fun x35 =>
    some (x35, w27))
    else if a2 = 4 then
    (zbd (zldI w27 (1 + 5) 10 a1) fun x37 =>
    some (x37, w27))
    else if a2 = 5 then
    (zbd2 (fX6_hurtOf 1 a1 w27) fun x39 w40 =>
    some (x39, w40))
    else if a2 = 6 then
    (zbd (zldL w27 (1 + 6) 10 a1) fun x42 =>
    zbd2 (fJ13_bitCount_95d88 x42 w27) fun x43 w44 =>
    some (x43, w44))
    else if a2 = 7 then
    (zbd (zldI w27 (1 + 1) 10 a1) fun x46 =>
    zbd (zldI w27 (1 + 4) 10 a1) fun x47 =>
    zbd2 (fX0_worthOf x46 x47 w27) fun x48 w49 =>
    some (x48, w49))
    else 
    (some ((-1000000001), w27)))
noncomputable def fX7_trim (a1 : Int32) (w : zz_W) : Option (Int32 × zz_W) :=
  zbd (some (zgI w 36 0)) fun x6 =>
    zbd2 (fX7_within a1 0 x6 w) fun x7 w8 =>
    if x7 = 0 then
    (some ((-1000000001), w8))
    else
    (zbd (some (zsI w8 36 0 a1)) fun w10 =>
    some (a1, w10))
noncomputable def fX7_turns (a1 : Int32) (a2 : Int32) (w : zz_W) : Option (Int32 × zz_W) :=
  zbd2 (fX6_isRun 1 a1 w) fun x10 w11 =>
    if x10 = 0 then
    (some ((-1000000001), w11))
    else
    (zbd2 (fX7_isKind a2 w11) fun x13 w14 =>
    if x13 = 0 then
    (some ((-1000000001), w14))
    else
    (zbd (zldI w14 (1 + 1) 10 a1) fun x16 =>
    zbd (zldI w14 (1 + 2) 10 a1) fun x17 =>
    zbd (fX6_shape 1 a1 a2 x17 w14) fun w18 =>
    some (x16, w18)))
noncomputable def fX7_when_13 : Nat → Int32 → zz_W → Option (Int32 × zz_W)
  | 0, _, _ => none
  | n + 1, l1, w =>
    if 100 < l1 then
    (some ((-1000000005), w))
    else
    (zbd2 (fX6_isKnown 21 w) fun x9 w10 =>
    if x9 = 0 then
    (zbd (fX6_takeStep 21 w10) fun w12 =>
    zbd (some (l1 + 1)) fun x13 =>
    fX7_when_13 n x13 w12)
    else
    (some (l1, w10)))
noncomputable def fX7_when (w : zz_W) : Option (Int32 × zz_W) :=
  zbd (fX6_takeFrom 21 1 w) fun w14 =>
    fX7_when_13 zfuel 0 w14
noncomputable def fX7_where (a1 : Int32) (a2 : Int32) (a3 : Int32) (w : zz_W) : Option (Int32 × zz_W) :=
  zbd2 (fX7_isSheet a1 w) fun x20 w21 =>
    if x20 = 0 then
    (some ((-1000000001), w21))
    else
    (zbd2 (fX7_isDepth a2 w21) fun x23 w24 =>
    if x23 = 0 then
    (some ((-1000000001), w24))
    else
    (zbd2 (fX7_within a3 0 1 w24) fun x26 w27 =>
    if x26 = 0 then
    (some ((-1000000001), w27))
    else
    (zbd2 (fX7_makePlan a1 a2 w27) fun x29 w30 =>
    if x29 = 0 then
    (if a3 = 0 then
    (zbd2 (fX1_bestCell w30) fun x37 w38 =>
    some (x37, w38))
    else
    (zbd2 (fX1_leastLoss w30) fun x33 w34 =>
    zbd2 (fX6_ofThousand 1 x33 w34) fun x35 w36 =>
    some (x35, w36)))
    else
    (some (x29, w30)))))
noncomputable def fX7_why (a1 : Int32) (w : zz_W) : Option (Int32 × zz_W) :=
  zbd2 (fX7_within a1 0 2 w) fun x7 w8 =>
    if x7 = 0 then
    (some ((-1000000001), w8))
    else
    (zbd (zldI w8 (1 + 9) 3 a1) fun x10 =>
    if 0 ≤ x10 then
    (zbd (zldI w8 (1 + 9) 3 a1) fun x12 =>
    some (x12, w8))
    else
    (some ((-1000000005), w8)))
noncomputable def fX7_worthiest (a1 : Int32) (a2 : Int32) (a3 : Int32) (w : zz_W) : Option (Int32 × zz_W) :=
  zbd2 (fX7_isSheet a1 w) fun x19 w20 =>
    if x19 = 0 then
    (some ((-1000000001), w20))
    else
    (zbd2 (fX7_isDepth a2 w20) fun x22 w23 =>
    if x22 = 0 then
    (some ((-1000000001), w23))
    else
    (zbd2 (fX7_within a3 0 2 w23) fun x25 w26 =>
    if x25 = 0 then
    (some ((-1000000001), w26))
    else
    (zbd2 (fX7_makePlan a1 a2 w26) fun x28 w29 =>
    if x28 = 0 then
    (zbd (fX1_findWorthiest 1 w29) fun w31 =>
    if a3 = 0 then
    (zbd (some (zgI w31 31 1)) fun x32 =>
    some (x32, w31))
    else if a3 = 1 then
    (zbd (some (zgI w31 31 2)) fun x34 =>
    some (x34, w31))
    else 
    (zbd (some (zgI w31 31 3)) fun x36 =>
    some (x36, w31)))
    else
    (some (x28, w29)))))
