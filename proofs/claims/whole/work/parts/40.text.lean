/-! ===== the makers of a TEXT ===== -/
set_option maxHeartbeats 4000000 in
set_option maxRecDepth 100000 in
theorem kX5_init (l : Launch) (D : va_G) (tc : Nat → ClassId) (lo : Nat) (bs : va_W) (q a n : Nat) (f : Nat → Int32) (ky at_ : Int32) (hn : n ≤ 96) :
    Met l yX5_init (zw_of yX5_init cX5_init 4 none) { frames := 1, cells := 1, slots := 96, locals := 20 } (va_Pc [.ref q, .int ky, .int at_, .ref a] (zB D tc lo ((q, .inr (4, [.int 0, .int 0, .null, .null])) :: (a, .inl (tc 0, n, .inl f)) :: bs))) (va_Qv (fun (_ : Nat) => True) (fun u t => va_P D vwCl ((q, .inr (4, [.int ky, .int at_, .ref a, .ref u])) :: (a, .inl (tc 0, n, .inl f)) :: (bs ++ [(u, .inl (tc 0, n, .inl (fun _ => 0)))])) t.heap ∧ va_D (fun a => lo ≤ a) ((q, .inr (4, [.int ky, .int at_, .ref a, .ref u])) :: (a, .inl (tc 0, n, .inl f)) :: (bs ++ [(u, .inl (tc 0, n, .inl (fun _ => 0)))]))) (fun a => lo ≤ a)) 1 96 (fun a => lo ≤ a) := by
  refine zr_entryB (by decide) (Nat.le_of_ble_eq_true rfl) fun p e s m args below meth c ls S hlo hnw hK hr hlk hin hP hD hS hl => ?_
  have S : CallFix p m c cX5_init 4 s args (Cond.code yX5_init cX5_init 4 none :: zw_tb) RX5 := S
  have hx := S.1
  have hb := S.2.1
  have hin : meth.name = "<init>" := hin
  have hl : lv_has ls 4 [(0, .ref q), (1, .int ky), (2, .int at_), (3, .ref a)] := hl
  refine lv_aload_n hx hb dX5_init_0 rfl (lv_at hl 0 rfl) ?_
  refine zr_obj S qm_X5_1 hl.1 ⟨Nat.le_of_ble_eq_true rfl, Nat.le_of_ble_eq_true rfl⟩ dX5_init_1 ?_
  refine lv_aload_n hx hb dX5_init_4 rfl (lv_at hl 0 rfl) ?_
  refine lv_iload_n hx hb dX5_init_5 rfl (lv_at hl 1 rfl) ?_
  refine zr_putF S hin hK hP hD hS zcl_X5 0 rfl 0 (by decide) rfl rfl rfl rfl (Nat.le_of_ble_eq_true rfl) qf_X5_7 dX5_init_6 (fun H locs hP hD hS => ?_)
  refine lv_aload_n hx hb dX5_init_9 rfl (lv_at hl 0 rfl) ?_
  refine lv_iload_n hx hb dX5_init_10 rfl (lv_at hl 2 rfl) ?_
  refine zr_putF S hin hK hP hD hS zcl_X5 0 rfl 1 (by decide) rfl rfl rfl rfl (Nat.le_of_ble_eq_true rfl) qf_X5_13 dX5_init_11 (fun H locs hP hD hS => ?_)
  refine lv_aload_n hx hb dX5_init_14 rfl (lv_at hl 0 rfl) ?_
  refine lv_aload_n hx hb dX5_init_15 rfl (lv_at hl 3 rfl) ?_
  refine zr_putF S hin hK hP hD hS zcl_X5 0 rfl 2 (by decide) rfl rfl rfl rfl (Nat.le_of_ble_eq_true rfl) qf_X5_16 dX5_init_16 (fun H locs hP hD hS => ?_)
  refine lv_aload_n hx hb dX5_init_19 rfl (lv_at hl 0 rfl) ?_
  refine lv_aload_n hx hb dX5_init_20 rfl (lv_at hl 3 rfl) ?_
  refine va_alen (ws := (q, .inr (4, [.int ky, .int at_, .ref a, .null])) :: (a, .inl (tc 0, n, .inl f)) :: bs) (v := Int32.ofNat n) (ty := zty 0) hx hb hK hP 1 0 rfl rfl rfl dX5_init_21 ?_
  refine zr_newI (ws := (q, .inr (4, [.int ky, .int at_, .ref a, .null])) :: (a, .inl (tc 0, n, .inl f)) :: bs) (N' := n) S hK hP hD hS (fun q h => Nat.le_trans hlo h) (nI_pos (by omega)) (nI_clamp (by omega)) (by omega) (Nat.le_of_ble_eq_true rfl) (by show 0 + n ≤ 96; omega) dX5_init_22 (fun u H hP hD hS => ?_)
  refine zr_putF S hin hK hP hD hS zcl_X5 0 rfl 3 (by decide) rfl rfl rfl rfl (Nat.le_of_ble_eq_true rfl) qf_X5_20 dX5_init_24 (fun H locs hP hD hS => ?_)
  refine W.widen (k := 1) (n := 96) (by omega) (by omega) ?_
  exact W.vret hx hb hr (fun t ht hW => ⟨⟨u, rfl, trivial, by rw [ht]; exact hP, hD⟩, hS.F ht⟩) hS.2.2 dX5_init_27 hlk
set_option maxHeartbeats 4000000 in
set_option maxRecDepth 100000 in
theorem kJ7_copyOf (l : Launch) (D : va_G) (tc : Nat → ClassId) (lo : Nat) (ad : Nat → Nat) (fr : va_W) (zq : zz_Q) (w : zz_W) (n : Int32) (hn : zin n 96 = true) :
    Met l yJ7_copyOf_59c91 (zw_of yJ7_copyOf_59c91 cJ7_copyOf_59c91 3 (some (FieldType.array FieldType.int))) { frames := 1, cells := 1, slots := 96, locals := 40 } (va_Pc [.ref (ad 38), .int n] (zPre D tc lo ad zshC znnC fr zq w)) (va_Qr (fun (_ : Unit) => True) (fun _ a t => va_P D vwCl ((zws ad tc zshC znnC w ++ fr) ++ [(a, .inl (tc 0, n.toNatClampNeg, .inl (va_cpy (zgI w 38) (fun _ => 0) 0 0 n.toNatClampNeg)))]) t.heap ∧ va_D (fun a => lo ≤ a) ((zws ad tc zshC znnC w ++ fr) ++ [(a, .inl (tc 0, n.toNatClampNeg, .inl (va_cpy (zgI w 38) (fun _ => 0) 0 0 n.toNatClampNeg)))])) (fun a => lo ≤ a)) 1 96 (fun a => lo ≤ a) := by
  refine zr_entry (by decide) (Nat.le_of_ble_eq_true rfl) fun p e s m args below meth c ls S hX hr hlk hE hl => ?_
  have S : CallFix p m c cJ7_copyOf_59c91 3 s args (Cond.code yJ7_copyOf_59c91 cJ7_copyOf_59c91 3 (some (FieldType.array FieldType.int)) :: zw_tb) RJ7 := S
  have hx := S.1
  have hb := S.2.1
  have hK := hX.2.1
  have hl : lv_has ls 3 [(0, .ref (ad 38)), (1, .int n)] := hl
  obtain ⟨j, hj, rfl⟩ := vp_in_of (zin_vp hn) (by decide)
  have hcl : (nI j).toNatClampNeg = j := nI_clamp (by omega)
  refine lv_iload_n hx hb dJ7_copyOf_59c91_0 rfl (lv_at hl 1 rfl) ?_
  refine lv_aload_n hx hb dJ7_copyOf_59c91_1 rfl (lv_at hl 0 rfl) ?_
  refine zr_alen S hK hE (zc_38 w) rfl dJ7_copyOf_59c91_2 ?_
  refine lv_icmp_ne (tgt := 14) hx hb dJ7_copyOf_59c91_3 (by decide) (fun c1 => ?_) (fun c1 => ?_)
  · refine lv_iload_n hx hb dJ7_copyOf_59c91_14 rfl (lv_at hl 1 rfl) ?_
    refine zr_newI (N' := j) S hK hE.1.1 hE.1.2 hE.2 (fun q h => Nat.le_trans hX.1 h) (nI_pos (by omega)) hcl (by omega) (Nat.le_of_ble_eq_true rfl) (by show 0 + j ≤ 96; omega) dJ7_copyOf_59c91_15 (fun a H hP hD hS => ?_)
    refine lv_astore_n (lv' := [(2, .ref a), (0, .ref (ad 38)), (1, .int (nI j))]) hx hb dJ7_copyOf_59c91_17 rfl hl (by decide) rfl (fun ls hl => ?_)
    refine lv_aload_n hx hb dJ7_copyOf_59c91_18 rfl (lv_at hl 1 rfl) ?_
    refine lv_iconst (v := 0) hx hb dJ7_copyOf_59c91_19 (by decide) ?_
    refine lv_aload_n hx hb dJ7_copyOf_59c91_20 rfl (lv_at hl 0 rfl) ?_
    refine lv_iconst (v := 0) hx hb dJ7_copyOf_59c91_21 (by decide) ?_
    refine lv_aload_n hx hb dJ7_copyOf_59c91_22 rfl (lv_at hl 1 rfl) ?_
    have g38 : ((zws ad tc zshC znnC w ++ fr) ++ [(a, .inl (tc 0, j, .inl (fun _ => 0)))])[38]? = some (ad 38, zpic ad tc w 38 (.inl (0, 96))) := by
      rw [List.append_assoc]
      exact (zc_38 w).get ad tc _
    refine va_alen (ty := zty 0) (v := Int32.ofNat 96) hx hb hK hP 38 0 g38 rfl rfl dJ7_copyOf_59c91_23 ?_
    refine lv_iload_n hx hb dJ7_copyOf_59c91_24 rfl (lv_at hl 2 rfl) ?_
    refine zr_mmin S zmath qm_J7_304 hl.1 ⟨Nat.le_of_ble_eq_true rfl, Nat.le_of_ble_eq_true rfl, Nat.le_of_ble_eq_true rfl, by show 0 + j ≤ 96; omega⟩ dJ7_copyOf_59c91_25 ?_
    have em : zmin (Int32.ofNat 96) (nI j) = nI j := by
      unfold zmin
      show (if nI j < nI 96 then nI j else nI 96) = nI j
      rw [if_pos (nI_lt (a := j) (b := 96) (by omega) (by decide))]
    refine W.eq (g2 := F0 m 28 ls [.int (nI j), .int 0, .ref a, .int 0, .ref (ad 38)]) (by rw [em]) ?_
    refine va_copyi (ty := .int) (f := zgI w 38) (g := fun _ => 0) hx hb (S.2.2.1.trans hl.1.symm) S.2.2.2.1 (S.2.2.2.2 _ (List.mem_cons_of_mem _ qm_J7_150)) (S.2.2.2.2 _ (List.mem_cons_of_mem _ zcpy.1)) (S.2.2.2.2 _ (List.mem_cons_of_mem _ zcpy.2.1)) (S.2.2.2.2 _ (List.mem_cons_of_mem _ zcpy.2.2)) hK hP hD hS 38 (zws ad tc zshC znnC w ++ fr).length 0 0 g38 zget_last rfl rfl rfl (by decide) (by decide) (nI_pos (by omega)) (by rw [hcl]; show 0 + j ≤ 96; omega) (by rw [hcl]; show 0 + j ≤ j; omega) (fun _ _ => rfl) (Nat.le_of_ble_eq_true rfl) (Nat.le_of_ble_eq_true rfl) dJ7_copyOf_59c91_28 (fun H locs hP hD hS => ?_)
    rw [zset_last] at hP hD
    refine lv_aload_n hx hb dJ7_copyOf_59c91_31 rfl (lv_at hl 0 rfl) ?_
    refine W.widen (k := 1) (n := 96) (by omega) (by omega) ?_
    exact W.aret hx hb hr (Or.inr ⟨_, rfl⟩) (Or.inr ⟨_, rfl⟩) (fun t ht hW => ⟨⟨(), a, rfl, trivial, by rw [ht, hcl]; rw [hcl] at hP; exact hP, by rw [hcl]; rw [hcl] at hD; exact hD⟩, hS.F ht⟩) hS.2.2 dJ7_copyOf_59c91_32 hlk
  · exact absurd c1 (by
      intro h
      have := (nI_eq (a := j) (b := 96) (by omega) (by decide)).mp h
      omega)
noncomputable def fX4_toText (w : zz_W) : Option (Nat × zz_W) :=
  zgrd (zokR w 9 0 14) <|
  zgrd (zokR w 19 0 14) <|
  zgrd (zokR w 29 0 14) <|
  zgrd (zin (zgI w 36 8) 96) <|
  some (zq0 w, zmk w)
abbrev zMt (l : Launch) (y : MethodName) (b : ByteArray) (nL : Nat) (ret : Option FieldType) (rm : Room) (D : va_G) (tc : Nat → ClassId) (lo : Nat) (ad : Nat → Nat) (fr : va_W) (zq : zz_Q) (av : List Value) (w : zz_W) (r : Nat) (w' : zz_W) : Prop :=
  Met l y (zw_of y b nL ret) rm (va_Pc av (zPre D tc lo ad zshC znnC fr zq w)) (va_Qr (fun (u : Nat → Nat) => ∀ k, k < zq0 w → u k = ad k) (fun u a t => a = u r ∧ zH D tc lo u zshC znnC fr w' t.heap) (fun a => lo ≤ a)) rm.cells rm.slots (fun a => lo ≤ a)
set_option maxHeartbeats 4000000 in
set_option maxRecDepth 100000 in
theorem kX4_toText (l : Launch) (D : va_G) (tc : Nat → ClassId) (lo : Nat) (ad : Nat → Nat) (fr : va_W) (zq : zz_Q) (w : zz_W) (r : Nat) (w_ : zz_W) (h : fX4_toText w = some (r, w_)) : zMt l yX4_toText cX4_toText 1 (some (FieldType.object "BehindWall$Text")) { frames := 3, cells := 3, slots := 196, locals := 80 } D tc lo ad fr zq [.ref (ad 36)] w r w_ := by
  refine zr_entry (by decide) (Nat.le_of_ble_eq_true rfl) fun p e s m args below meth c ls S hX hr hlk hE hl => ?_
  have S : CallFix p m c cX4_toText 1 s args (Cond.code yX4_toText cX4_toText 1 (some (FieldType.object "BehindWall$Text")) :: zw_tb) RX4 := S
  have hx := S.1
  have hb := S.2.1
  have hK := hX.2.1
  have hl : lv_has ls 1 [(0, .ref (ad 36))] := hl
  unfold fX4_toText at h
  obtain ⟨h9, h⟩ := zgrdE h
  obtain ⟨h19, h⟩ := zgrdE h
  obtain ⟨h29, h⟩ := zgrdE h
  obtain ⟨hz, h⟩ := zgrdE h
  cases h
  refine va_new (ci := 4) (fs := [.int 0, .int 0, .null, .null]) (C := RX5) (T := TX5) (N := 4) hx hb S.2.2.2.2 (fun w hw => List.mem_cons_of_mem _ (zcl_X5.2.1 w hw)) tyX5 tyX5_ok S.2.2.2.1 (S.2.2.2.2 _ (List.mem_cons_of_mem _ ql_X4_54)) (S.2.2.2.2 _ (List.mem_cons_of_mem _ qi_X5)) (S.2.2.2.2 _ (List.mem_cons_of_mem _ qz_X5)) hK hE.1.1 hE.1.2 hE.2 (fun q h => Nat.le_trans hX.1 h) rfl (fun j hj => by rcases (show j = 0 ∨ j = 1 ∨ j = 2 ∨ j = 3 by omega) with rfl | rfl | rfl | rfl <;> rfl) (Nat.le_of_ble_eq_true rfl) (Nat.le_of_ble_eq_true rfl) dX4_toText_0 (fun q H hP hD hS => ?_)
  have hE1 : zE D tc lo ad zshC znnC (fr ++ [(q, .inr (4, [.int 0, .int 0, .null, .null]))]) w s.heap H [] := ⟨⟨by rw [← List.append_assoc]; exact hP, by rw [← List.append_assoc]; exact hD⟩, hS⟩
  refine W.widen (k := 1) (n := 4) (Nat.le_of_ble_eq_true rfl) (Nat.le_of_ble_eq_true rfl) ?_
  refine lv_dup hx hb dX4_toText_3 rfl ?_
  refine lv_aload_n hx hb dX4_toText_4 rfl (lv_at hl 0 rfl) ?_
  refine zr_getI S hK hE1 zcl_X4 (zc_36 w) 7 (Nat.le_of_ble_eq_true rfl) rfl qf_X4_44 dX4_toText_5 rfl ?_
  refine lv_aload_n hx hb dX4_toText_8 rfl (lv_at hl 0 rfl) ?_
  refine zr_getI S hK hE1 zcl_X4 (zc_36 w) 9 (Nat.le_of_ble_eq_true rfl) rfl qf_X4_34 dX4_toText_9 rfl ?_
  refine lv_aload_n hx hb dX4_toText_12 rfl (lv_at hl 0 rfl) ?_
  refine zr_getA S hK hE1 zcl_X4 (zc_36 w) 2 (Nat.le_of_ble_eq_true rfl) (q := 38) rfl qf_X4_15 dX4_toText_13 ?_
  refine lv_aload_n hx hb dX4_toText_16 rfl (lv_at hl 0 rfl) ?_
  refine zr_getI S hK hE1 zcl_X4 (zc_36 w) 8 (Nat.le_of_ble_eq_true rfl) rfl qf_X4_31 dX4_toText_17 rfl ?_
  refine va_callr (zr_runS (As := [.ref (ad 38), .int (zgI w 36 8)]) (rest := [.int (zgI w 36 9), .int (zgI w 36 7), .ref q, .ref q]) S hX hE1 (kJ7_copyOf l D tc lo ad (fr ++ [(q, .inr (4, [.int 0, .int 0, .null, .null]))]) zq w (zgI w 36 8) hz) zyJ7_copyOf_59c91 qm_X4_56 ⟨rfl, rfl⟩ ⟨Nat.le_of_ble_eq_true rfl, Nat.le_of_ble_eq_true rfl⟩ rfl hl.1 rfl (Nat.le_of_ble_eq_true rfl) dX4_toText_20 ⟨Nat.le_of_ble_eq_true rfl, Nat.le_of_ble_eq_true rfl⟩) hS (fun _ _ h => h) (fun _ h => h) (fun _ a t H1 locs1 ht hvm _ hB _ _ hS => ?_)
  obtain ⟨hP1, hD1⟩ := hB
  rw [ht] at hP1
  have hn96 : (zgI w 36 8).toNatClampNeg ≤ 96 := Nat.le_of_lt (Nat.not_le.mp fun g => zin_vp hz (Or.inr g))
  generalize hcs : (zgI w 36 8).toNatClampNeg = N at hP1 hD1 hn96
  have hP2 : va_P D vwCl ((q, .inr (4, [.int 0, .int 0, .null, .null])) :: (a, .inl (tc 0, N, .inl (va_cpy (zgI w 38) (fun _ => 0) 0 0 N))) :: (zws ad tc zshC znnC w ++ fr)) H1 := zP_perm hP1 (fun x hx => by
    simp only [List.mem_cons, List.mem_append, List.not_mem_nil, or_false] at hx ⊢
    rcases hx with rfl | rfl | hx | hx
    · exact Or.inl (Or.inr (Or.inr rfl))
    · exact Or.inr rfl
    · exact Or.inl (Or.inl hx)
    · exact Or.inl (Or.inr (Or.inl hx)))
  have hD2 : va_D (fun a => lo ≤ a) ((q, .inr (4, [.int 0, .int 0, .null, .null])) :: (a, .inl (tc 0, N, .inl (va_cpy (zgI w 38) (fun _ => 0) 0 0 N))) :: (zws ad tc zshC znnC w ++ fr)) := zD_perm hD1 (by
    simp only [List.map_append, List.map_cons, List.map_nil]
    generalize (zws ad tc zshC znnC w).map Prod.fst = X
    generalize fr.map Prod.fst = Y
    rw [List.append_assoc, List.append_assoc, ← List.append_assoc]
    exact (List.perm_append_comm (l₁ := X ++ Y) (l₂ := [q, a])))
  have hK1 : va_K D vwCl (ztys tc) t := va_K.moved hvm hK
  refine va_callv (va_runI (As := [.int (zgI w 36 7), .int (zgI w 36 9), .ref a]) (rest := [.ref q]) ⟨hx, hb, S.2.2.1, S.2.2.2.1, S.2.2.2.2⟩ (kX5_init l D tc lo (zws ad tc zshC znnC w ++ fr) q a N (va_cpy (zgI w 38) (fun _ => 0) 0 0 N) (zgI w 36 7) (zgI w 36 9) hn96) (cwI 3 S.2.2.2.2 (zw_good qc_X5_init) rfl rfl rfl (S.2.2.2.2 _ (List.mem_cons_of_mem _ qz_X5)) (S.2.2.2.2 _ (List.mem_cons_of_mem _ qm_X4_62)) (S.2.2.2.2 _ (List.mem_cons_of_mem _ qj_X5_init)) rfl (by decide +kernel) ⟨Nat.le_of_ble_eq_true rfl, Nat.le_of_ble_eq_true rfl⟩) ⟨fun a U g mk z => by obtain ⟨z0, z1, z2, z3, z4, z5⟩ := z; exact ⟨z0, z1, z2, z3, va_K.moved (u := U) (U := U.calling g mk a) (Vm.Alike.refl U.vm) z4, zn_same (u := U) rfl z5⟩, fun U hU hW => ⟨rfl, by rw [hU]; exact Nat.le_trans hX.1 hS.1, by rw [hU]; exact hP2, hD2, va_K.moved hW.alike hK, zn_warm hW hX.2.2.1⟩⟩ rfl rfl hl.1 rfl (lv_room (Nat.le_of_ble_eq_true rfl)) dX4_toText_23 ⟨Nat.le_of_ble_eq_true rfl, Nat.le_of_ble_eq_true rfl⟩) hS (fun _ _ h => h) (fun _ h => h) (fun u t H1 locs1 ht hvm _ hB _ _ hS => ?_)
  obtain ⟨hP3, hD3⟩ := hB
  rw [ht] at hP3
  rw [← hcs] at hP3 hD3
  exact W.aret hx hb hr (Or.inl ⟨_, rfl⟩) (Or.inr ⟨_, rfl⟩) (fun t ht hW => ⟨⟨zad ad (zq0 w) q a u, q, rfl, fun k hk => zad_lt hk, by unfold zad; rw [if_pos rfl], by rw [ht]; exact zmk_H h9 h19 h29 hP3 hD3⟩, hS.F ht⟩) hS.2.2 dX4_toText_26 hlk
noncomputable def fX7_text (w : zz_W) : Option (Int32 × zz_W) :=
  zbd2 (fX4_findFault w) fun x1 w1 =>
  zbd (some (zsI w1 36 0 0)) fun w2 =>
  if x1 < 0 then
    (zbd (some (zgI w2 1 15)) fun x3 =>
    if x3 < 14 then
      (zbd2 (fX4_toText w2) fun q w3 =>
      zbd (fX6_addText 1 q w3) fun w4 =>
      zbd (some (zgI w4 1 15)) fun x5 => some (x5 - 1, w4))
    else (some (-1000000003, w2)))
  else (some ((-100) - x1, w2))
abbrev zMx (l : Launch) (y : MethodName) (b : ByteArray) (nL : Nat) (ret : Option FieldType) (rm : Room) (D : va_G) (tc : Nat → ClassId) (lo : Nat) (ad : Nat → Nat) (fr : va_W) (zq : zz_Q) (av : List Value) (w : zz_W) (r : Int32) (w' : zz_W) : Prop :=
  Met l y (zw_of y b nL ret) rm (va_Pc av (zPre D tc lo ad zshC znnC fr zq w)) (va_Qi (fun x (u : Nat → Nat) => x = r ∧ ∀ k, k < 65 → u k = ad k) (fun u t => zH D tc lo u zshC znnC fr w' t.heap) (fun a => lo ≤ a)) rm.cells rm.slots (fun a => lo ≤ a)
theorem zr_xret {p : Program} {l : Launch} {e : Env} {R : Room} {s : State} {m : MethodId} {args : Array Value} {below : List Frame} {meth : Method} {c : Code} {H : Heap} {locs : List Loc} {cells slots : Nat} {cc : ByteArray} {pc nL : Nat} {ls : Array Slot} {q0 : Cond} {own : String} {D : va_G} {tc : Nat → ClassId} {lo : Nat} {ad ad2 : Nat → Nat} {fr : va_W} {w w' : zz_W} (S : CallFix p m c cc nL s args (q0 :: zw_tb) own) (hE : zE D tc lo ad2 zshC znnC fr w s.heap H locs) (hr : meth.sig.returnType = some .int) (hlocks : meth.locks = false) (hk : ∀ k, k < 65 → ad2 k = ad k) {v r : Int32} (h : some (v, w) = some (r, w')) (hc : cells ≤ 3) (hs : slots ≤ 196) (hdg : decode cc pc = .ok (.ireturn, 1)) :
    W p l e R s m args below meth c H locs cells slots (MQ below (va_Qi (fun x (u : Nat → Nat) => x = r ∧ ∀ k, k < 65 → u k = ad k) (fun u t => zH D tc lo u zshC znnC fr w' t.heap) (fun a => lo ≤ a)) args s 3 196 (fun a => lo ≤ a)) (F0 m pc ls [.int v]) := by
  cases h
  refine W.widen (k := 3) (n := 196) hc hs ?_
  exact W.iret S.1 S.2.1 hr (fun t ht hW => ⟨⟨v, ad2, rfl, ⟨rfl, hk⟩, by show zH D tc lo ad2 zshC znnC fr w t.heap; rw [ht]; exact hE.1⟩, hE.2.F ht⟩) hE.2.2.2 hdg hlocks
set_option maxHeartbeats 4000000 in
set_option maxRecDepth 100000 in
theorem kX7_text (l : Launch) (D : va_G) (tc : Nat → ClassId) (lo : Nat) (ad : Nat → Nat) (fr : va_W) (zq : zz_Q) (w : zz_W) (r : Int32) (w_ : zz_W) (h : fX7_text w = some (r, w_)) : zMx l yX7_text cX7_text 2 (some .int) { frames := 130, cells := 3, slots := 196, locals := 4600 } D tc lo ad fr zq [.ref (ad 0)] w r w_ := by
  refine zr_entry (by decide) (Nat.le_of_ble_eq_true rfl) fun p e s m args below meth c ls S hX hr hlk hE hl => ?_
  have S : CallFix p m c cX7_text 2 s args (Cond.code yX7_text cX7_text 2 (some .int) :: zw_tb) RX7 := S
  have hx := S.1
  have hb := S.2.1
  have hK := hX.2.1
  have hl : lv_has ls 2 [(0, .ref (ad 0))] := hl
  unfold fX7_text at h
  obtain ⟨x1, w1, ew1, h⟩ := zbd2E h
  obtain ⟨w2, ew2, h⟩ := zbdE h
  refine lv_aload_n hx hb dX7_text_0 rfl (lv_at hl 0 rfl) ?_
  refine zr_getA S hK hE zcl_X7 (zc_0 w) 4 (Nat.le_of_ble_eq_true rfl) (q := 36) rfl qf_X7_32 dX7_text_1 ?_
  refine zr_i (zr_runV (As := []) S hX hE (kX4_findFault l D tc lo ad fr zq w x1 w1 ew1) zyX4_findFault qm_X7_260 zcl_X4 rfl (zc_36 w) ⟨rfl, rfl⟩ ⟨Nat.le_of_ble_eq_true rfl, Nat.le_of_ble_eq_true rfl⟩ rfl hl.1 rfl (Nat.le_of_ble_eq_true rfl) dX7_text_4 ⟨Nat.zero_le _, Nat.zero_le _⟩) hE (fun H locs hE => ?_)
  refine lv_istore_n (lv' := [(1, .int x1), (0, .ref (ad 0))]) hx hb dX7_text_7 rfl hl (by decide) rfl (fun ls hl => ?_)
  refine lv_aload_n hx hb dX7_text_8 rfl (lv_at hl 1 rfl) ?_
  refine zr_getA S hK hE zcl_X7 (zc_0 w1) 4 (Nat.le_of_ble_eq_true rfl) (q := 36) rfl qf_X7_32 dX7_text_9 ?_
  refine lv_iconst (v := 0) hx hb dX7_text_12 (by decide) ?_
  refine zr_putI S hK hE zcl_X4 (zc_36 w1) 0 (Nat.le_of_ble_eq_true rfl) rfl rfl rfl qf_X7_254 dX7_text_13 ew2 (fun H locs hE => ?_)
  refine lv_iload_n hx hb dX7_text_16 rfl (lv_at hl 0 rfl) ?_
  refine lv_if_lt (tgt := 25) hx hb dX7_text_17 (by decide) (fun c1 => ?_) (fun c1 => ?_)
  · have h := zif c1 h
    obtain ⟨x3, ex3, h⟩ := zbdE h
    refine lv_aload_n hx hb dX7_text_25 rfl (lv_at hl 1 rfl) ?_
    refine zr_getA S hK hE zcl_X7 (zc_0 w2) 0 (Nat.le_of_ble_eq_true rfl) (q := 1) rfl qf_X7_10 dX7_text_26 ?_
    refine zr_getI S hK hE zcl_X6 (zcW0 zW1 w2) 15 (Nat.le_of_ble_eq_true rfl) rfl qf_X7_263 dX7_text_29 ex3 ?_
    refine lv_bipush (v := 14) hx hb dX7_text_32 (by decide) ?_
    refine lv_icmp_lt (tgt := 40) hx hb dX7_text_34 (by decide) (fun c2 => ?_) (fun c2 => ?_)
    · have h := zif c2 h
      obtain ⟨q, w3, ew3, h⟩ := zbd2E h
      obtain ⟨w4, ew4, h⟩ := zbdE h
      obtain ⟨x5, ex5, h⟩ := zbdE h
      refine lv_aload_n hx hb dX7_text_40 rfl (lv_at hl 1 rfl) ?_
      refine zr_getA S hK hE zcl_X7 (zc_0 w2) 0 (Nat.le_of_ble_eq_true rfl) (q := 1) rfl qf_X7_10 dX7_text_41 ?_
      refine lv_aload_n hx hb dX7_text_44 rfl (lv_at hl 1 rfl) ?_
      refine zr_getA S hK hE zcl_X7 (zc_0 w2) 4 (Nat.le_of_ble_eq_true rfl) (q := 36) rfl qf_X7_32 dX7_text_45 ?_
      refine va_callr (zr_runV (As := []) (rest := [.ref (ad 1)]) S hX hE (kX4_toText l D tc lo ad fr zq w2 q w3 ew3) zyX4_toText qm_X7_266 zcl_X4 rfl (zc_36 w2) ⟨rfl, rfl⟩ ⟨Nat.le_of_ble_eq_true rfl, Nat.le_of_ble_eq_true rfl⟩ rfl hl.1 rfl (Nat.le_of_ble_eq_true rfl) dX7_text_48 ⟨Nat.le_of_ble_eq_true rfl, Nat.le_of_ble_eq_true rfl⟩) hE.2 (fun _ _ h => h) (fun _ h => h) (fun ad2 a t H1 locs1 ht hvm hk hB _ _ hS => ?_)
      obtain ⟨rfl, hB⟩ := hB
      have hk65 : ∀ k, k < 65 → ad2 k = ad k := fun k hk2 => hk k (by unfold zq0; omega)
      rw [ht] at hB
      have hE : zE D tc lo ad2 zshC znnC fr w3 s.heap H1 locs1 := ⟨hB, hS⟩
      have hl : lv_has ls 2 [(1, .int x1), (0, .ref (ad2 0))] := by rw [hk65 0 (by decide)]; exact hl
      refine W.eq (g2 := F0 m 51 ls [.ref (ad2 q), .ref (ad2 1)]) (by rw [hk65 1 (by decide)]) ?_
      refine zr_v (zr_runV (k := 1) (As := [.ref (ad2 q)]) S hX hE (kX6_addText l D tc lo ad2 fr zq 1 q w3 w4 ew4) zyX6_addText qm_X7_270 zcl_X6 rfl (zcW0 zW1 w3) ⟨rfl, rfl⟩ ⟨Nat.le_of_ble_eq_true rfl, Nat.le_of_ble_eq_true rfl⟩ rfl hl.1 rfl (Nat.le_of_ble_eq_true rfl) dX7_text_51 ⟨Nat.le_of_ble_eq_true rfl, Nat.le_of_ble_eq_true rfl⟩) hE (fun H locs hE => ?_)
      refine lv_aload_n hx hb dX7_text_54 rfl (lv_at hl 1 rfl) ?_
      refine zr_getA S hK hE zcl_X7 (zc_0 w4) 0 (Nat.le_of_ble_eq_true rfl) (q := 1) rfl qf_X7_10 dX7_text_55 ?_
      refine zr_getI S hK hE zcl_X6 (zcW0 zW1 w4) 15 (Nat.le_of_ble_eq_true rfl) rfl qf_X7_263 dX7_text_58 ex5 ?_
      refine lv_iconst (v := 1) hx hb dX7_text_61 (by decide) ?_
      refine lv_isub hx hb dX7_text_62 ?_
      exact zr_xret S hE hr hlk hk65 h (Nat.le_of_ble_eq_true rfl) (Nat.le_of_ble_eq_true rfl) dX7_text_63
    · have h := zif' c2 h
      refine zr_ldc S qc_X7_73 dX7_text_37 ?_
      exact zr_xret S hE hr hlk (fun _ _ => rfl) h (Nat.le_of_ble_eq_true rfl) (Nat.le_of_ble_eq_true rfl) dX7_text_39
  · have h := zif' c1 h
    refine lv_bipush (v := (-100)) hx hb dX7_text_20 (by decide) ?_
    refine lv_iload_n hx hb dX7_text_22 rfl (lv_at hl 0 rfl) ?_
    refine lv_isub hx hb dX7_text_23 ?_
    exact zr_xret S hE hr hlk (fun _ _ => rfl) h (Nat.le_of_ble_eq_true rfl) (Nat.le_of_ble_eq_true rfl) dX7_text_24
