/-! ===== calls, returns, statics, the library's small members ===== -/
def zX (lo : Nat) (D : va_G) (tc : Nat → ClassId) (zq : zz_Q) (s : State) : Prop := lo ≤ s.heap.size ∧ va_K D vwCl (ztys tc) s ∧ zn_U s ∧ zSt lo zq s s.heap
def zmin (x y : Int32) : Int32 := if y < x then y else x
def zmax (x y : Int32) : Int32 := if x < y then y else x
def zminL (x y : Int64) : Int64 := if y < x then y else x
def zldF (f : Nat → Int32) (n : Nat) (i : Int32) : Option Int32 := if zin i n = true then some (f i.toNatClampNeg) else none
theorem zldF_in {f : Nat → Int32} {n : Nat} {i v : Int32} (h : zldF f n i = some v) : vp_in i n ∧ f i.toNatClampNeg = v := by
  unfold zldF at h
  by_cases hz : zin i n = true
  · rw [if_pos hz] at h; exact ⟨zin_vp hz, Option.some.inj h⟩
  · rw [if_neg hz] at h; cases h
section ZC
variable {p : Program} {l : Launch} {e : Env} {R : Room} {s : State} {m : MethodId} {args : Array Value} {below : List Frame} {meth : Method} {c : Code} {H : Heap} {locs : List Loc} {cells slots : Nat} {Q : State → Prop}
variable {cc : ByteArray} {pc nL : Nat} {ls : Array Slot} {rest st0 : List Value} {q0 : Cond} {own : String}
variable {D : va_G} {tc : Nat → ClassId} {lo : Nat} {ad : Nat → Nat} {sh : zz_G → Nat → zz_S} {nn : zz_G → Nat} {fr : va_W} {w w' : zz_W} {zq : zz_Q}
variable {ci : Nat} {C : String} {T : u_T} {N : Nat} {ty : Nat → FieldType} {fds : List Nat} {k : Nat}
variable {y : MethodName} {b : ByteArray} {maxL mc ms n index : Nat} {ret : Option FieldType} {rm : Room} {Qc : Array Value → State → Outcome → State → Prop} {free : Addr → Prop} {As : List Value}
theorem zr_pre (hX : zX lo D tc zq s) (hE : zE D tc lo ad sh nn fr w s.heap H locs) (av : List Value) : PreS s H (va_Pc av (zPre D tc lo ad sh nn fr zq w)) av :=
  ⟨fun a U g mk q => by
    obtain ⟨q0, q1, q2, q3, q4, q5⟩ := q
    exact ⟨q0, q1, q2, va_K.moved (u := U) (U := U.calling g mk a) (Vm.Alike.refl U.vm) q3, zn_same (u := U) rfl q4, q5.blind rfl rfl⟩,
   fun U hU hW => ⟨rfl, by rw [hU]; exact Nat.le_trans hX.1 hE.2.1, by rw [hU]; exact hE.1, va_K.moved hW.alike hX.2.1, zn_warm hW hX.2.2.1, hX.2.2.2.call hE.2 hW hU⟩⟩
theorem zr_runS (S : CallFix p m c cc nL s args (q0 :: zw_tb) own) (hX : zX lo D tc zq s) (hE : zE D tc lo ad sh nn fr w s.heap H locs) (hM : Met l y (zw_of y b maxL ret) rm (va_Pc As (zPre D tc lo ad sh nn fr zq w)) Qc mc ms free) (hw : zMw y b maxL ret 0 n) (hl : Cond.methodLink own index y ∈ zw_tb) (hrm : rm.cells = mc ∧ rm.slots = ms) (hR : rm.frames + 1 ≤ R.frames ∧ 8 + (maxL + 11) + rm.locals ≤ R.locals) (hn : As.length = n) (hls : ls.size = nL) (hst : st0 = As.reverse ++ rest) (hrest : (rest.map fun v => v.category).sum ≤ 8) (hdg : decode cc pc = .ok (.invokestatic index, 3)) (hf : cells + mc ≤ R.cells ∧ slots + ms ≤ R.slots) : va_Run p l e R s m args below meth c H locs cells slots mc ms (F0 m pc ls st0) rest (Qc As.toArray) free :=
  va_runS (n := n) S hM ⟨callB_of n S.2.2.2.2 (zw_good hw.1) rfl hrm.1 hrm.2 (S.2.2.2.2 _ (List.mem_cons_of_mem _ hw.2.1)) (S.2.2.2.2 _ (List.mem_cons_of_mem _ hl)) hw.2.2.1 hR, S.2.2.2.2 _ (List.mem_cons_of_mem _ hw.2.2.2)⟩ (zr_pre hX hE As) rfl hn hls hst (lv_room (rest := st0) hrest) hdg hf
theorem zr_runSN {host : String} (S : CallFix p m c cc nL s args (q0 :: zw_tb) own) (hX : zX lo D tc zq s) (hE : zE D tc lo ad sh nn fr w s.heap H locs) (hM : Met l y (zw_of y b maxL ret) rm (va_Pc As (zPre D tc lo ad sh nn fr zq w)) Qc mc ms free) (hw : zMw y b maxL ret 0 n) (hl : Cond.methodLinkNest own index y host ∈ zn_tb) (hrm : rm.cells = mc ∧ rm.slots = ms) (hR : rm.frames + 1 ≤ R.frames ∧ 8 + (maxL + 11) + rm.locals ≤ R.locals) (hn : As.length = n) (hls : ls.size = nL) (hst : st0 = As.reverse ++ rest) (hrest : (rest.map fun v => v.category).sum ≤ 8) (hdg : decode cc pc = .ok (.invokestatic index, 3)) (hf : cells + mc ≤ R.cells ∧ slots + ms ≤ R.slots) : va_Run p l e R s m args below meth c H locs cells slots mc ms (F0 m pc ls st0) rest (Qc As.toArray) free :=
  va_runSN (n := n) S hM ⟨va_cnB n S.2.2.2.2 (zw_good hw.1) rfl hrm.1 hrm.2 (hX.2.2.1 _ hl) (S.2.2.2.2 _ (List.mem_cons_of_mem _ hw.2.1)) hw.2.2.1 hR, S.2.2.2.2 _ (List.mem_cons_of_mem _ hw.2.2.2), trivial⟩ (zr_pre hX hE As) rfl hn hls hst (lv_room (rest := st0) hrest) hdg hf
theorem zr_runV (S : CallFix p m c cc nL s args (q0 :: zw_tb) own) (hX : zX lo D tc zq s) (hE : zE D tc lo ad sh nn fr w s.heap H locs) (hM : Met l y (zw_of y b maxL ret) rm (va_Pc (.ref (ad k) :: As) (zPre D tc lo ad sh nn fr zq w)) Qc mc ms free) (hw : zMw y b maxL ret 1 n) (hl : Cond.methodLink own index y ∈ zw_tb) (hC : zCl ci C T N ty) (hyc : y.cls = C) (ha : zAt sh nn w k (.inr (ci, fds))) (hrm : rm.cells = mc ∧ rm.slots = ms) (hR : rm.frames + 1 ≤ R.frames ∧ 8 + (maxL + 11) + rm.locals ≤ R.locals) (hn : As.length = n) (hls : ls.size = nL) (hst : st0 = As.reverse ++ .ref (ad k) :: rest) (hrest : (rest.map fun v => v.category).sum ≤ 8) (hdg : decode cc pc = .ok (.invokevirtual index, 3)) (hf : cells + mc ≤ R.cells ∧ slots + ms ≤ R.slots) : va_Run p l e R s m args below meth c H locs cells slots mc ms (F0 m pc ls st0) rest (Qc (Value.ref (ad k) :: As).toArray) free := by
  have hp := zr_pre hX hE (.ref (ad k) :: As)
  have hs := hw.2.2.2
  rw [if_neg (by decide)] at hs
  refine va_runV (n := n) (C := C) S hM ⟨callB_of n S.2.2.2.2 (zw_good hw.1) rfl hrm.1 hrm.2 (S.2.2.2.2 _ (List.mem_cons_of_mem _ hw.2.1)) (S.2.2.2.2 _ (List.mem_cons_of_mem _ hl)) hw.2.2.1 hR, S.2.2.2.2 _ (List.mem_cons_of_mem _ hs.1), ?_⟩ ⟨hp.1, va_recv hX.2.1 hE.1.1 (q0 := k) hC.1 (ha.get ad tc fr), hp.2⟩ rfl hn hls hst (lv_room (rest := st0) hrest) hdg hf
  rw [← hyc]
  exact S.2.2.2.2 _ (List.mem_cons_of_mem _ hs.2)
theorem zr_i {a : Array Value} {r : Int32} (hr : va_Run p l e R s m args below meth c H locs cells slots mc ms (F0 m pc ls st0) rest (va_Qi (fun x u => x = r ∧ u = w') (fun u t => zH D tc lo ad sh nn fr u t.heap) (fun a => lo ≤ a) a) (fun a => lo ≤ a)) (hE : zE D tc lo ad sh nn fr w s.heap H locs)
    (kk : ∀ (H1 : Heap) (locs1 : List Loc), zE D tc lo ad sh nn fr w' s.heap H1 locs1 → W p l e R s m args below meth c H1 locs1 (cells + mc) (slots + ms) Q (F0 m (pc + 3) ls (.int r :: rest))) : W p l e R s m args below meth c H locs cells slots Q (F0 m pc ls st0) :=
  va_calli hr hE.2 (fun _ _ h => h) (fun _ h => h) (fun x u t H1 locs1 ht _ hp hB _ _ hS => by obtain ⟨rfl, rfl⟩ := hp; exact kk H1 locs1 ⟨by rw [← ht]; exact hB, hS⟩)
theorem zr_l {a : Array Value} {r : Int64} (hr : va_Run p l e R s m args below meth c H locs cells slots mc ms (F0 m pc ls st0) rest (va_Ql (fun x u => x = r ∧ u = w') (fun u t => zH D tc lo ad sh nn fr u t.heap) (fun a => lo ≤ a) a) (fun a => lo ≤ a)) (hE : zE D tc lo ad sh nn fr w s.heap H locs)
    (kk : ∀ (H1 : Heap) (locs1 : List Loc), zE D tc lo ad sh nn fr w' s.heap H1 locs1 → W p l e R s m args below meth c H1 locs1 (cells + mc) (slots + ms) Q (F0 m (pc + 3) ls (.long r :: rest))) : W p l e R s m args below meth c H locs cells slots Q (F0 m pc ls st0) :=
  va_calll hr hE.2 (fun _ _ h => h) (fun _ h => h) (fun x u t H1 locs1 ht _ hp hB _ _ hS => by obtain ⟨rfl, rfl⟩ := hp; exact kk H1 locs1 ⟨by rw [← ht]; exact hB, hS⟩)
theorem zr_v {a : Array Value} (hr : va_Run p l e R s m args below meth c H locs cells slots mc ms (F0 m pc ls st0) rest (va_Qv (fun u => u = w') (fun u t => zH D tc lo ad sh nn fr u t.heap) (fun a => lo ≤ a) a) (fun a => lo ≤ a)) (hE : zE D tc lo ad sh nn fr w s.heap H locs)
    (kk : ∀ (H1 : Heap) (locs1 : List Loc), zE D tc lo ad sh nn fr w' s.heap H1 locs1 → W p l e R s m args below meth c H1 locs1 (cells + mc) (slots + ms) Q (F0 m (pc + 3) ls rest)) : W p l e R s m args below meth c H locs cells slots Q (F0 m pc ls st0) :=
  va_callv hr hE.2 (fun _ _ h => h) (fun _ h => h) (fun u t H1 locs1 ht _ hp hB _ _ hS => by subst hp; exact kk H1 locs1 ⟨by rw [← ht]; exact hB, hS⟩)
theorem zr_iret (S : CallFix p m c cc nL s args (q0 :: zw_tb) own) (hE : zE D tc lo ad sh nn fr w s.heap H locs) (hr : meth.sig.returnType = some .int) (hlocks : meth.locks = false) {v r : Int32} (h : some (v, w) = some (r, w')) (hdg : decode cc pc = .ok (.ireturn, 1)) :
    W p l e R s m args below meth c H locs cells slots (MQ below (va_Qi (fun x u => x = r ∧ u = w') (fun u t => zH D tc lo ad sh nn fr u t.heap) (fun a => lo ≤ a)) args s cells slots (fun a => lo ≤ a)) (F0 m pc ls [.int v]) := by
  cases h
  exact W.iret S.1 S.2.1 hr (fun t ht hW => ⟨⟨v, w, rfl, ⟨rfl, rfl⟩, by show zH D tc lo ad sh nn fr w t.heap; rw [ht]; exact hE.1⟩, hE.2.F ht⟩) hE.2.2.2 hdg hlocks
theorem zr_zret {rt : FieldType} (S : CallFix p m c cc nL s args (q0 :: zw_tb) own) (hE : zE D tc lo ad sh nn fr w s.heap H locs) (hr : meth.sig.returnType = some rt) (hlocks : meth.locks = false) {v r : Int32} (hn : narrow rt (.int v) = .int v) (h : some (v, w) = some (r, w')) (hdg : decode cc pc = .ok (.ireturn, 1)) :
    W p l e R s m args below meth c H locs cells slots (MQ below (va_Qi (fun x u => x = r ∧ u = w') (fun u t => zH D tc lo ad sh nn fr u t.heap) (fun a => lo ≤ a)) args s cells slots (fun a => lo ≤ a)) (F0 m pc ls [.int v]) := by
  cases h
  exact W.zret S.1 S.2.1 hr hn (fun t ht hW => ⟨⟨v, w, rfl, ⟨rfl, rfl⟩, by show zH D tc lo ad sh nn fr w t.heap; rw [ht]; exact hE.1⟩, hE.2.F ht⟩) hE.2.2.2 hdg hlocks
theorem zr_lret (S : CallFix p m c cc nL s args (q0 :: zw_tb) own) (hE : zE D tc lo ad sh nn fr w s.heap H locs) (hr : meth.sig.returnType = some .long) (hlocks : meth.locks = false) {v r : Int64} (h : some (v, w) = some (r, w')) (hdg : decode cc pc = .ok (.lreturn, 1)) :
    W p l e R s m args below meth c H locs cells slots (MQ below (va_Ql (fun x u => x = r ∧ u = w') (fun u t => zH D tc lo ad sh nn fr u t.heap) (fun a => lo ≤ a)) args s cells slots (fun a => lo ≤ a)) (F0 m pc ls [.long v]) := by
  cases h
  exact W.lret S.1 S.2.1 hr (fun t ht hW => ⟨⟨v, w, rfl, ⟨rfl, rfl⟩, by show zH D tc lo ad sh nn fr w t.heap; rw [ht]; exact hE.1⟩, hE.2.F ht⟩) hE.2.2.2 hdg hlocks
theorem zr_vret (S : CallFix p m c cc nL s args (q0 :: zw_tb) own) (hE : zE D tc lo ad sh nn fr w s.heap H locs) (hr : meth.sig.returnType = none) (hlocks : meth.locks = false) (h : some w = some w') (hdg : decode cc pc = .ok (.return_, 1)) :
    W p l e R s m args below meth c H locs cells slots (MQ below (va_Qv (fun u => u = w') (fun u t => zH D tc lo ad sh nn fr u t.heap) (fun a => lo ≤ a)) args s cells slots (fun a => lo ≤ a)) (F0 m pc ls []) := by
  cases h
  exact W.vret S.1 S.2.1 hr (fun t ht hW => ⟨⟨w, rfl, rfl, by show zH D tc lo ad sh nn fr w t.heap; rw [ht]; exact hE.1⟩, hE.2.F ht⟩) hE.2.2.2 hdg hlocks
theorem zr_sABOVE (S : CallFix p m c cc nL s args (q0 :: zw_tb) own) (hX : zX lo D tc zq s) (hE : zE D tc lo ad sh nn fr w s.heap H locs) (hl : Cond.fieldLink own index "BehindWall$Kinds" "ABOVE" "[I" ∈ zw_tb) (hdg : decode cc pc = .ok (.getstatic index, 3))
    (kk : W p l e R s m args below meth c H locs cells slots Q (F0 m (pc + 3) ls (.ref zq.2.2.1 :: rest))) : W p l e R s m args below meth c H locs cells slots Q (F0 m pc ls rest) :=
  va_gets S.1 S.2.1 hX.2.2.2.1 hE.2 S.2.2.2.1 (S.2.2.2.2 _ (List.mem_cons_of_mem _ hl)) (fun _ h => h) hdg kk
theorem zr_sMINS (S : CallFix p m c cc nL s args (q0 :: zw_tb) own) (hX : zX lo D tc zq s) (hE : zE D tc lo ad sh nn fr w s.heap H locs) (hl : Cond.fieldLink own index "BehindWall$Wall" "MINUTES_OF" "[I" ∈ zw_tb) (hdg : decode cc pc = .ok (.getstatic index, 3))
    (kk : W p l e R s m args below meth c H locs cells slots Q (F0 m (pc + 3) ls (.ref zq.2.2.2 :: rest))) : W p l e R s m args below meth c H locs cells slots Q (F0 m pc ls rest) :=
  va_gets S.1 S.2.1 hX.2.2.2.2.2.1 hE.2 S.2.2.2.1 (S.2.2.2.2 _ (List.mem_cons_of_mem _ hl)) (fun _ h => h) hdg kk
theorem zr_tABOVE (S : CallFix p m c cc nL s args (q0 :: zw_tb) own) (hX : zX lo D tc zq s) (hE : zE D tc lo ad sh nn fr w s.heap H locs) (hdg : decode cc pc = .ok (.iaload, 1)) {i v : Int32} (hv : zldF zABOVE 6 i = some v)
    (kk : W p l e R s m args below meth c H locs cells slots Q (F0 m (pc + 1) ls (.int v :: rest))) : W p l e R s m args below meth c H locs cells slots Q (F0 m pc ls (.int i :: .ref zq.2.2.1 :: rest)) := by
  obtain ⟨h1, rfl⟩ := zldF_in hv
  exact va_ti S.1 S.2.1 hX.2.2.2.2.1 hE.2 h1 rfl hdg kk
theorem zr_tMINS (S : CallFix p m c cc nL s args (q0 :: zw_tb) own) (hX : zX lo D tc zq s) (hE : zE D tc lo ad sh nn fr w s.heap H locs) (hdg : decode cc pc = .ok (.iaload, 1)) {i v : Int32} (hv : zldF zMINS 4 i = some v)
    (kk : W p l e R s m args below meth c H locs cells slots Q (F0 m (pc + 1) ls (.int v :: rest))) : W p l e R s m args below meth c H locs cells slots Q (F0 m pc ls (.int i :: .ref zq.2.2.2 :: rest)) := by
  obtain ⟨h1, rfl⟩ := zldF_in hv
  exact va_ti S.1 S.2.1 hX.2.2.2.2.2.2.1 hE.2 h1 rfl hdg kk
theorem zr_ldc (S : CallFix p m c cc nL s args (q0 :: zw_tb) own) {v : Int32} (hl : Cond.constant own index v ∈ zw_tb) (hdg : decode cc pc = .ok (.ldc index, 2))
    (kk : W p l e R s m args below meth c H locs cells slots Q (F0 m (pc + 2) ls (.int v :: rest))) : W p l e R s m args below meth c H locs cells slots Q (F0 m pc ls rest) :=
  lv_ldc S.1 S.2.1 S.2.2.2.1 (S.2.2.2.2 _ (List.mem_cons_of_mem _ hl)) hdg kk
theorem zr_ldcw (S : CallFix p m c cc nL s args (q0 :: zw_tb) own) {v : Int32} (hl : Cond.constant own index v ∈ zw_tb) (hdg : decode cc pc = .ok (.ldc_w index, 3))
    (kk : W p l e R s m args below meth c H locs cells slots Q (F0 m (pc + 3) ls (.int v :: rest))) : W p l e R s m args below meth c H locs cells slots Q (F0 m pc ls rest) :=
  lv_ldcw S.1 S.2.1 S.2.2.2.1 (S.2.2.2.2 _ (List.mem_cons_of_mem _ hl)) hdg kk
theorem zr_ldc2 (S : CallFix p m c cc nL s args (q0 :: zw_tb) own) {v : Int64} (hl : Cond.constantLong own index v ∈ zw_tb) (hdg : decode cc pc = .ok (.ldc2_w index, 3))
    (kk : W p l e R s m args below meth c H locs cells slots Q (F0 m (pc + 3) ls (.long v :: rest))) : W p l e R s m args below meth c H locs cells slots Q (F0 m pc ls rest) :=
  lv_ldc2 S.1 S.2.1 S.2.2.2.1 (S.2.2.2.2 _ (List.mem_cons_of_mem _ hl)) hdg kk
theorem zr_mmax (S : CallFix p m c cc nL s args (q0 :: zw_tb) own) (hm : zMath) (hl : Cond.methodLink own index Lib.Math.max.name ∈ zw_tb) (hls : ls.size = nL) (hR : 1 ≤ R.frames ∧ (rest.map fun v => v.category).sum + 13 ≤ R.locals ∧ cells ≤ R.cells ∧ slots ≤ R.slots) (hdg : decode cc pc = .ok (.invokestatic index, 3)) {x y : Int32}
    (kk : W p l e R s m args below meth c H locs cells slots Q (F0 m (pc + 3) ls (.int (zmax x y) :: rest))) : W p l e R s m args below meth c H locs cells slots Q (F0 m pc ls (.int y :: .int x :: rest)) :=
  va_mmax S.1 S.2.1 (S.2.2.1.trans hls.symm) S.2.2.2.1 (S.2.2.2.2 _ (List.mem_cons_of_mem _ hl)) (S.2.2.2.2 _ (List.mem_cons_of_mem _ hm.1.1)) (S.2.2.2.2 _ (List.mem_cons_of_mem _ hm.2.2.2)) (S.2.2.2.2 _ (List.mem_cons_of_mem _ hm.1.2)) hR.1 hR.2.1 hR.2.2.1 hR.2.2.2 hdg kk
theorem zr_mmin (S : CallFix p m c cc nL s args (q0 :: zw_tb) own) (hm : zMath) (hl : Cond.methodLink own index Lib.Math.min.name ∈ zw_tb) (hls : ls.size = nL) (hR : 1 ≤ R.frames ∧ (rest.map fun v => v.category).sum + 13 ≤ R.locals ∧ cells ≤ R.cells ∧ slots ≤ R.slots) (hdg : decode cc pc = .ok (.invokestatic index, 3)) {x y : Int32}
    (kk : W p l e R s m args below meth c H locs cells slots Q (F0 m (pc + 3) ls (.int (zmin x y) :: rest))) : W p l e R s m args below meth c H locs cells slots Q (F0 m pc ls (.int y :: .int x :: rest)) :=
  va_mmin S.1 S.2.1 (S.2.2.1.trans hls.symm) S.2.2.2.1 (S.2.2.2.2 _ (List.mem_cons_of_mem _ hl)) (S.2.2.2.2 _ (List.mem_cons_of_mem _ hm.2.1.1)) (S.2.2.2.2 _ (List.mem_cons_of_mem _ hm.2.2.2)) (S.2.2.2.2 _ (List.mem_cons_of_mem _ hm.2.1.2)) hR.1 hR.2.1 hR.2.2.1 hR.2.2.2 hdg kk
theorem zr_mminL (S : CallFix p m c cc nL s args (q0 :: zw_tb) own) (hm : zMath) (hl : Cond.methodLink own index Lib.MathLoose.min_long.x ∈ zw_tb) (hls : ls.size = nL) (hR : 1 ≤ R.frames ∧ (rest.map fun v => v.category).sum + 15 ≤ R.locals ∧ cells ≤ R.cells ∧ slots ≤ R.slots) (hdg : decode cc pc = .ok (.invokestatic index, 3)) {x y : Int64}
    (kk : W p l e R s m args below meth c H locs cells slots Q (F0 m (pc + 3) ls (.long (zminL x y) :: rest))) : W p l e R s m args below meth c H locs cells slots Q (F0 m pc ls (.long y :: .long x :: rest)) :=
  va_mmin_long S.1 S.2.1 (S.2.2.1.trans hls.symm) S.2.2.2.1 (S.2.2.2.2 _ (List.mem_cons_of_mem _ hl)) (S.2.2.2.2 _ (List.mem_cons_of_mem _ hm.2.2.1.1)) (S.2.2.2.2 _ (List.mem_cons_of_mem _ hm.2.2.2)) (S.2.2.2.2 _ (List.mem_cons_of_mem _ hm.2.2.1.2)) hR.1 hR.2.1 hR.2.2.1 hR.2.2.2 hdg kk
theorem zr_cpI (S : CallFix p m c cc nL s args (q0 :: zw_tb) own) (hK : va_K D vwCl (ztys tc) s) (hE : zE D tc lo ad sh nn fr w s.heap H locs) (hm : zCpy) (hl : Cond.methodLink own index arraycopyName ∈ zw_tb) (hls : ls.size = nL) {k0 n0 k1 n1 : Nat} (ha0 : zAt sh nn w k0 (.inl (0, n0))) (ha1 : zAt sh nn w k1 (.inl (0, n1))) (hR : 1 ≤ R.frames ∧ (rest.map fun v => v.category).sum + (nativeFrameWords "java/lang/System" "arraycopy" 5 + 11) ≤ R.locals) (hdg : decode cc pc = .ok (.invokestatic index, 3)) {sp dp n : Int32} (hv : zcpI w k0 n0 sp k1 n1 dp n = some w')
    (kk : ∀ (H1 : Heap) (locs1 : List Loc), zE D tc lo ad sh nn fr w' s.heap H1 locs1 → W p l e R s m args below meth c H1 locs1 cells slots Q (F0 m (pc + 3) ls rest)) : W p l e R s m args below meth c H locs cells slots Q (F0 m pc ls (.int n :: .int dp :: .ref (ad k1) :: .int sp :: .ref (ad k0) :: rest)) := by
  obtain ⟨⟨h1, h2, h3, h4, h5⟩, rfl⟩ := zcpI_in hv
  refine va_copyi (ty := .int) (f := zgI w k0) (g := zgI w k1) S.1 S.2.1 (S.2.2.1.trans hls.symm) S.2.2.2.1 (S.2.2.2.2 _ (List.mem_cons_of_mem _ hl)) (S.2.2.2.2 _ (List.mem_cons_of_mem _ hm.1)) (S.2.2.2.2 _ (List.mem_cons_of_mem _ hm.2.1)) (S.2.2.2.2 _ (List.mem_cons_of_mem _ hm.2.2)) hK hE.1.1 hE.1.2 hE.2 k0 k1 0 0 (ha0.get ad tc fr) (ha1.get ad tc fr) rfl rfl rfl h1 h2 h3 h4 h5 (fun _ _ => rfl) hR.1 hR.2 hdg (fun H1 locs1 hP hD hS => kk H1 locs1 ?_)
  refine zE_set (w' := zcI w k0 sp.toNatClampNeg k1 dp.toNatClampNeg n.toNatClampNeg) ha1 (show (Sum.inl (tc 0, n1, Sum.inl (zgI (zcI w k0 sp.toNatClampNeg k1 dp.toNatClampNeg n.toNatClampNeg) k1)) : va_E) = _ from ?_) rfl (fun j i hj => ?_) (fun _ _ _ => rfl) (fun _ _ _ => rfl) hP hD hS
  · have e : zgI (zcI w k0 sp.toNatClampNeg k1 dp.toNatClampNeg n.toNatClampNeg) k1 = va_cpy (zgI w k0) (zgI w k1) sp.toNatClampNeg dp.toNatClampNeg n.toNatClampNeg := by
      funext j; simp [zgI, zcI, va_cpy]
    rw [e]
  · simp [zgI, zcI, hj]
theorem zr_cpL (S : CallFix p m c cc nL s args (q0 :: zw_tb) own) (hK : va_K D vwCl (ztys tc) s) (hE : zE D tc lo ad sh nn fr w s.heap H locs) (hm : zCpy) (hl : Cond.methodLink own index arraycopyName ∈ zw_tb) (hls : ls.size = nL) {k0 n0 k1 n1 : Nat} (ha0 : zAt sh nn w k0 (.inl (1, n0))) (ha1 : zAt sh nn w k1 (.inl (1, n1))) (hR : 1 ≤ R.frames ∧ (rest.map fun v => v.category).sum + (nativeFrameWords "java/lang/System" "arraycopy" 5 + 11) ≤ R.locals) (hdg : decode cc pc = .ok (.invokestatic index, 3)) {sp dp n : Int32} (hv : zcpL w k0 n0 sp k1 n1 dp n = some w')
    (kk : ∀ (H1 : Heap) (locs1 : List Loc), zE D tc lo ad sh nn fr w' s.heap H1 locs1 → W p l e R s m args below meth c H1 locs1 cells slots Q (F0 m (pc + 3) ls rest)) : W p l e R s m args below meth c H locs cells slots Q (F0 m pc ls (.int n :: .int dp :: .ref (ad k1) :: .int sp :: .ref (ad k0) :: rest)) := by
  obtain ⟨⟨h1, h2, h3, h4, h5⟩, rfl⟩ := zcpL_in hv
  refine va_copyl (ty := .long) (f := zgL w k0) (g := zgL w k1) S.1 S.2.1 (S.2.2.1.trans hls.symm) S.2.2.2.1 (S.2.2.2.2 _ (List.mem_cons_of_mem _ hl)) (S.2.2.2.2 _ (List.mem_cons_of_mem _ hm.1)) (S.2.2.2.2 _ (List.mem_cons_of_mem _ hm.2.1)) (S.2.2.2.2 _ (List.mem_cons_of_mem _ hm.2.2)) hK hE.1.1 hE.1.2 hE.2 k0 k1 1 1 (ha0.get ad tc fr) (ha1.get ad tc fr) rfl rfl rfl h1 h2 h3 h4 h5 (fun _ _ => rfl) hR.1 hR.2 hdg (fun H1 locs1 hP hD hS => kk H1 locs1 ?_)
  refine zE_set (w' := zcL w k0 sp.toNatClampNeg k1 dp.toNatClampNeg n.toNatClampNeg) ha1 (show (Sum.inl (tc 1, n1, Sum.inr (Sum.inl (zgL (zcL w k0 sp.toNatClampNeg k1 dp.toNatClampNeg n.toNatClampNeg) k1))) : va_E) = _ from ?_) rfl (fun _ _ _ => rfl) (fun j i hj => ?_) (fun _ _ _ => rfl) hP hD hS
  · have e : zgL (zcL w k0 sp.toNatClampNeg k1 dp.toNatClampNeg n.toNatClampNeg) k1 = va_cpy (zgL w k0) (zgL w k1) sp.toNatClampNeg dp.toNatClampNeg n.toNatClampNeg := by
      funext j; simp [zgL, zcL, va_cpy]
    rw [e]
  · simp [zgL, zcL, hj]
end ZC
