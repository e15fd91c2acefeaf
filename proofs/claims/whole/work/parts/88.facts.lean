/-! ===== the law, from its entry ===== -/
theorem zt_mem {w : Cond} (h : w ∈ zw_tb) : w ∈ lw_tbl := (List.mem_filter.mp h).1
theorem zArr {args : Array Value} {s : State} {ty : FieldType} (hp : ∀ C, ty ≠ .object C) (h : (Cond.arrayClass ty).before args s = true) : ∃ cA : ClassId, ArrOfT s cA ty ∧ va_RA s cA ty := by
  obtain ⟨c, k, comp, h1, h2, h3⟩ := Cond.arrayClass_spec (args := args) (first := s) (o := none) (s := s) (idx := []) h
  refine ⟨c, fun n z => ⟨fun k h => (by cases h), k, h2, comp, h3⟩, ?_⟩
  cases ty with
  | object C => exact absurd rfl (hp C)
  | _ => exact h1
theorem zArrO {s : State} {C : String} (h : va_AO C s) : ∃ cA : ClassId, ArrOfT s cA (.object C) ∧ va_RA s cA (.object C) := by
  obtain ⟨comp, c, k, h1, h2, h3, h4, h5⟩ := Cond.arrayOver_spec h
  exact ⟨c, fun n z => ⟨fun k h => (by cases h), k, h3, comp, h4⟩, k, comp, h3, h4, h1, h5⟩
theorem zAO_start {args : Array Value} {s : State} (hts : ∀ w ∈ lw_tbl, w.before args s = true) : zAO s := ⟨va_AO.of (hts (.arrayOver (.object "BehindWall$Sheet")) (List.mem_of_getElem? (i := 246) (by decide +kernel))), va_AO.of (hts (.arrayOver (.object "BehindWall$Slot")) (List.mem_of_getElem? (i := 248) (by decide +kernel))), va_AO.of (hts (.arrayOver (.object "BehindWall$Text")) (List.mem_of_getElem? (i := 96) (by decide +kernel)))⟩
theorem zn_start {args : Array Value} {s : State} (hts : ∀ w ∈ lw_tbl, w.before args s = true) : zn_U s := by
  intro w hw
  have h1 := (List.mem_filter.mp hw).2
  have h2 := hts w (List.mem_filter.mp hw).1
  cases w <;> first | (simp [zn_is] at h1; done) | exact va_Nw.of rfl h2
theorem zK_start {args : Array Value} {s : State} (hts : ∀ w ∈ lw_tbl, w.before args s = true) : ∃ (D : va_G) (tc : Nat → ClassId), va_K D vwCl (ztys tc) s := by
  have hz : ∀ w ∈ zw_tb, w.before args s = true := fun w hw => hts w (zt_mem hw)
  have hao := zAO_start hts
  obtain ⟨c0, i0, hK0⟩ := u_known (C := RX1) (T := TX1) (N := 10) (n := 10) hz zcl_X1.2.1 (hz _ qi_X1)
  obtain ⟨c1, i1, hK1⟩ := u_known (C := RX2) (T := TX2) (N := 3) (n := 3) hz zcl_X2.2.1 (hz _ qi_X2)
  obtain ⟨c2, i2, hK2⟩ := u_known (C := RX3) (T := TX3) (N := 5) (n := 5) hz zcl_X3.2.1 (hz _ qi_X3)
  obtain ⟨c3, i3, hK3⟩ := u_known (C := RX4) (T := TX4) (N := 10) (n := 10) hz zcl_X4.2.1 (hz _ qi_X4)
  obtain ⟨c4, i4, hK4⟩ := u_known (C := RX5) (T := TX5) (N := 4) (n := 4) hz zcl_X5.2.1 (hz _ qi_X5)
  obtain ⟨c5, i5, hK5⟩ := u_known (C := RX6) (T := TX6) (N := 16) (n := 16) hz zcl_X6.2.1 (hz _ qi_X6)
  obtain ⟨c6, i6, hK6⟩ := u_known (C := RX7) (T := TX7) (N := 10) (n := 10) hz zcl_X7.2.1 (hz _ qi_X7)
  obtain ⟨c7, i7, hK7⟩ := u_known (C := RX8) (T := TX8) (N := 35) (n := 35) hz zcl_X8.2.1 (hz _ qi_X8)
  obtain ⟨a0, hA0⟩ := zArr (ty := .int) (fun C h => by cases h) (hz _ qa_int)
  obtain ⟨a1, hA1⟩ := zArr (ty := .long) (fun C h => by cases h) (hz _ qa_long)
  obtain ⟨a2, hA2⟩ := zArr (ty := .boolean) (fun C h => by cases h) (hz _ qa_boolean)
  obtain ⟨a3, hA3⟩ := zArr (ty := .char) (fun C h => by cases h) (hz _ qa_char)
  obtain ⟨a4, hA4⟩ := zArrO hao.1
  obtain ⟨a5, hA5⟩ := zArrO hao.2.1
  obtain ⟨a6, hA6⟩ := zArrO hao.2.2
  refine ⟨(fun k => ([c0, c1, c2, c3, c4, c5, c6, c7] : List ClassId).getD k 0, fun k => ([i0, i1, i2, i3, i4, i5, i6, i7] : List (Nat → Nat)).getD k (fun _ => 0)), fun t => ([a0, a1, a2, a3, a4, a5, a6] : List ClassId).getD t 0, ?_, ?_⟩
  · intro k q hq
    match k, hq with
    | 0, hq => cases hq; exact hK0
    | 1, hq => cases hq; exact hK1
    | 2, hq => cases hq; exact hK2
    | 3, hq => cases hq; exact hK3
    | 4, hq => cases hq; exact hK4
    | 5, hq => cases hq; exact hK5
    | 6, hq => cases hq; exact hK6
    | 7, hq => cases hq; exact hK7
    | k + 8, hq => simp [vwCl] at hq
  · intro k q hq
    match k, hq with
    | 0, hq => cases hq; exact hA0
    | 1, hq => cases hq; exact hA1
    | 2, hq => cases hq; exact hA2
    | 3, hq => cases hq; exact hA3
    | 4, hq => cases hq; exact hA4
    | 5, hq => cases hq; exact hA5
    | 6, hq => cases hq; exact hA6
    | k + 7, hq => simp at hq
theorem zSt_start {b : Nat} {s : State} (hts : ∀ w ∈ lw_tbl, w.before #[Value.ref b] s = true) (hgv : (Jvm.Cond.and given_1 narrow_1).before #[Value.ref b] s = true) : ∃ zq : zz_Q, zSt s.heap.size zq s s.heap := by
  have hs := flat_of_before _ hgv
  have hA : ∀ a : Nat, a < s.heap.size → ¬ (fun a => s.heap.size ≤ a) a := fun a h => Nat.not_le.mpr h
  obtain ⟨tA, eA, hTA⟩ := va_Tof (tm := .static "BehindWall$Kinds" "ABOVE" "[I") (ty := .int) (N := 6) (f := fun j => .int (zABOVE j)) (by decide) (hs _ (by decide +kernel)) (va_eqt (hs _ (by decide +kernel))) (fun j hj => by
    rcases (show j = 0 ∨ j = 1 ∨ j = 2 ∨ j = 3 ∨ j = 4 ∨ j = 5 by omega) with rfl | rfl | rfl | rfl | rfl | rfl <;> exact va_eqt (hs _ (by decide +kernel))) hA
  obtain ⟨tM, eM, hTM⟩ := va_Tof (tm := .static "BehindWall$Wall" "MINUTES_OF" "[I") (ty := .int) (N := 4) (f := fun j => .int (zMINS j)) (by decide) (hs _ (by decide +kernel)) (va_eqt (hs _ (by decide +kernel))) (fun j hj => by
    rcases (show j = 0 ∨ j = 1 ∨ j = 2 ∨ j = 3 by omega) with rfl | rfl | rfl | rfl <;> exact va_eqt (hs _ (by decide +kernel))) hA
  obtain ⟨adK, adV, hS, hev⟩ := vk_Sof (args := #[Value.ref b]) (s := s) (N := 6) (tm := fun i => .string "BehindWall$Tape" (zsx i).1) (len := zlen) (byt := zbyt) (A := fun a => s.heap.size ≤ a) (fun i hi => by
      rcases (show i = 0 ∨ i = 1 ∨ i = 2 ∨ i = 3 ∨ i = 4 ∨ i = 5 by omega) with rfl | rfl | rfl | rfl | rfl | rfl <;> decide)
    (fun i hi => by rcases (show i = 0 ∨ i = 1 ∨ i = 2 ∨ i = 3 ∨ i = 4 ∨ i = 5 by omega) with rfl | rfl | rfl | rfl | rfl | rfl <;> exact hs _ (by decide +kernel))
    (fun i hi => by rcases (show i = 0 ∨ i = 1 ∨ i = 2 ∨ i = 3 ∨ i = 4 ∨ i = 5 by omega) with rfl | rfl | rfl | rfl | rfl | rfl <;> exact hs _ (by decide +kernel))
    (fun i hi => by rcases (show i = 0 ∨ i = 1 ∨ i = 2 ∨ i = 3 ∨ i = 4 ∨ i = 5 by omega) with rfl | rfl | rfl | rfl | rfl | rfl <;> exact hs _ (by decide +kernel))
    (fun i hi => by rcases (show i = 0 ∨ i = 1 ∨ i = 2 ∨ i = 3 ∨ i = 4 ∨ i = 5 by omega) with rfl | rfl | rfl | rfl | rfl | rfl <;> exact hs _ (by decide +kernel))
    (fun i hi j hj => by
      rcases (show i = 0 ∨ i = 1 ∨ i = 2 ∨ i = 3 ∨ i = 4 ∨ i = 5 by omega) with rfl | rfl | rfl | rfl | rfl | rfl <;> (have hj' : j < 4 := Nat.lt_of_lt_of_le hj (by decide)) <;> rcases (show j = 0 ∨ j = 1 ∨ j = 2 ∨ j = 3 by omega) with rfl | rfl | rfl | rfl <;> first | exact hs _ (by decide +kernel) | exact absurd hj (by decide))
    (fun i j hi hj hij => by
      rcases (show i = 0 ∨ i = 1 ∨ i = 2 ∨ i = 3 ∨ i = 4 ∨ i = 5 by omega) with rfl | rfl | rfl | rfl | rfl | rfl <;> rcases (show j = 0 ∨ j = 1 ∨ j = 2 ∨ j = 3 ∨ j = 4 ∨ j = 5 by omega) with rfl | rfl | rfl | rfl | rfl | rfl <;> first | exact absurd rfl hij | exact Or.inl (hs _ (by decide +kernel)) | exact Or.inr (hs _ (by decide +kernel))) hA
  refine ⟨(adK, adV, tA, tM), va_Zref (hts (.laysStatic "BehindWall$Kinds" "ABOVE" "[I") (List.mem_of_getElem? (i := 422) (by decide +kernel))) (hts (.initialized "BehindWall$Kinds") (List.mem_of_getElem? (i := 70) (by decide +kernel))) eA hA, hTA, va_Zref (hts (.laysStatic "BehindWall$Wall" "MINUTES_OF" "[I") (List.mem_of_getElem? (i := 512) (by decide +kernel))) (hts (.initialized "BehindWall$Wall") (List.mem_of_getElem? (i := 64) (by decide +kernel))) eM hA, hTM, va_Zof (hts (.laysStatic "java/lang/String" "COMPACT_STRINGS" "Z") (List.mem_of_getElem? (i := 763) (by decide +kernel))) (hts (.initialized "java/lang/String") (List.mem_of_getElem? (i := 75) (by decide +kernel))) (va_eqi (hs _ (by decide +kernel))) hA, hS, fun i hi => ?_, va_Zqof (hts (.laysStatic "jdk/internal/util/Preconditions" "SIOOBE_FORMATTER" "Ljava/util/function/BiFunction;") (List.mem_of_getElem? (i := 779) (by decide +kernel))) (hts (.initialized "jdk/internal/util/Preconditions") (List.mem_of_getElem? (i := 77) (by decide +kernel))) (hs _ (by decide +kernel)) hA⟩
  have he := hev i hi
  rcases (show i = 0 ∨ i = 1 ∨ i = 2 ∨ i = 3 ∨ i = 4 ∨ i = 5 by omega) with rfl | rfl | rfl | rfl | rfl | rfl
  · exact vk_R.of (hts (.stringRef "BehindWall$Tape" 82 "hurt") (List.mem_of_getElem? (i := 749) (by decide +kernel))) he
  · exact vk_R.of (hts (.stringRef "BehindWall$Tape" 88 "fee") (List.mem_of_getElem? (i := 802) (by decide +kernel))) he
  · exact vk_R.of (hts (.stringRef "BehindWall$Tape" 90 "fine") (List.mem_of_getElem? (i := 803) (by decide +kernel))) he
  · exact vk_R.of (hts (.stringRef "BehindWall$Tape" 135 "dml") (List.mem_of_getElem? (i := 832) (by decide +kernel))) he
  · exact vk_R.of (hts (.stringRef "BehindWall$Tape" 137 "ct") (List.mem_of_getElem? (i := 833) (by decide +kernel))) he
  · exact vk_R.of (hts (.stringRef "BehindWall$Tape" 139 "od") (List.mem_of_getElem? (i := 834) (by decide +kernel))) he
