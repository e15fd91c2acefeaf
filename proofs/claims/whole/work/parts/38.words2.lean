theorem qo_1 : Cond.instanceMethod objectInit ∈ zw_tb := zw_mem 87 (by decide +kernel) (by decide +kernel)
theorem qo_2 : Cond.code objectInit ⟨#[0xb1]⟩ 1 none ∈ zw_tb := zw_mem 88 (by decide +kernel) (by decide +kernel)
theorem qa_int : Cond.arrayClass .int ∈ zw_tb := zw_mem 164 (by decide +kernel) (by decide +kernel)
theorem qa_long : Cond.arrayClass .long ∈ zw_tb := zw_mem 165 (by decide +kernel) (by decide +kernel)
theorem qa_char : Cond.arrayClass .char ∈ zw_tb := zw_mem 1155 (by decide +kernel) (by decide +kernel)
theorem qa_boolean : Cond.arrayClass .boolean ∈ zw_tb := zw_mem 1156 (by decide +kernel) (by decide +kernel)
theorem ql_X4_54 : Cond.classLink RX4 54 RX5 ∈ zw_tb := zw_mem 906 (by decide +kernel) (by decide +kernel)
theorem qi_X5 : Cond.instantiable RX5 4 ∈ zw_tb := zw_mem 907 (by decide +kernel) (by decide +kernel)
theorem qz_X5 : Cond.initialized RX5 ∈ zw_tb := zyX5_valueOf.2.1
theorem qc_X5_init : Cond.code yX5_init cX5_init 4 none ∈ zw_tb := zw_mem 922 (by decide +kernel) (by decide +kernel)
theorem qj_X5_init : Cond.instanceMethod yX5_init ∈ zw_tb := zw_mem 921 (by decide +kernel) (by decide +kernel)
theorem zRA_int {D : va_G} {tc : Nat → ClassId} {s : State} {cA : ClassId} (hK : va_K D vwCl (ztys tc) s) (h : va_RA s cA .int) : cA = tc 0 := Option.some.inj (h.symm.trans (hK.2 0 (tc 0, zty 0) rfl).2)
section ZN
variable {p : Program} {l : Launch} {e : Env} {R : Room} {s : State} {m : MethodId} {args : Array Value} {below : List Frame} {meth : Method} {c : Code} {H : Heap} {locs : List Loc} {cells slots : Nat} {Q : State → Prop}
variable {cc : ByteArray} {pc nL : Nat} {ls : Array Slot} {rest : List Value} {q0 : Cond} {own : String} {D : va_G} {tc : Nat → ClassId} {A : Nat → Prop} {ws : va_W} {H0 : Heap}
/-- a new row of ints -/
theorem zr_newI (S : CallFix p m c cc nL s args (q0 :: zw_tb) own) (hK : va_K D vwCl (ztys tc) s) (hP : va_P D vwCl ws H) (hD : va_D A ws) (hS : va_S A H0 H locs) (hA : ∀ q, H0.size ≤ q → A q) {n : Int32} {N' : Nat} (hn : ¬ n < 0) (hN : n.toNatClampNeg = N') (hb : N' ≤ 2000) (hcells : cells + 1 ≤ R.cells) (hslots : slots + N' ≤ R.slots) (hdg : decode cc pc = .ok (.newarray .int, 2))
    (kk : ∀ (q : Nat) (H1 : Heap), va_P D vwCl (ws ++ [(q, .inl (tc 0, N', .inl (fun _ => 0)))]) H1 → va_D A (ws ++ [(q, .inl (tc 0, N', .inl (fun _ => 0)))]) → va_S A H0 H1 locs → W p l e R s m args below meth c H1 locs (cells + 1) (slots + N') Q (F0 m (pc + 2) ls (.ref q :: rest))) : W p l e R s m args below meth c H locs cells slots Q (F0 m pc ls (.int n :: rest)) := by
  refine va_newa (atype := .int) (ty := .int) (a0 := (N', .inl (fun _ => 0))) S.1 S.2.1 (S.2.2.2.2 _ (List.mem_cons_of_mem _ qa_int)) rfl hK hP hD hS hA (fun cA => rfl) hn hN ?_ hcells hslots hdg (fun q cA H1 hK1 hP1 hD1 hS1 => ?_)
  · show N' * 4 ≤ 536870912
    omega
  · have e := zRA_int hK (hK1.2 7 (cA, .int) rfl).2
    subst e
    exact kk q H1 hP1 hD1 hS1
theorem zr_putF (S : CallFix p m c cc nL s args (q0 :: zw_tb) own) (hin : meth.name = "<init>") (hK : va_K D vwCl (ztys tc) s) (hP : va_P D vwCl ws H) (hD : va_D A ws) (hS : va_S A H0 H locs) {ci : Nat} {C : String} {T : u_T} {N : Nat} {ty : Nat → FieldType} (hC : zCl ci C T N ty) (i0 : Nat) {a : Nat} {fs : List Value} (he : ws[i0]? = some (a, .inr (ci, fs))) (j : Nat) (hj : j < N) {index : Nat} {v : Value} (hfin : (T j).2.2.2 = true) (hdecl : (T j).1 = own) (hn : narrow (ty j) v = v) (hfit : fits (ty j) v = true) (hlen : j < fs.length) (hl : Cond.fieldLink own index (T j).1 (T j).2.1 (T j).2.2.1 ∈ zw_tb) (hdg : decode cc pc = .ok (.putfield index, 3))
    (kk : ∀ (H1 : Heap) (locs1 : List Loc), va_P D vwCl (ws.set i0 (a, .inr (ci, fs.set j v))) H1 → va_D A (ws.set i0 (a, .inr (ci, fs.set j v))) → va_S A H0 H1 locs1 → W p l e R s m args below meth c H1 locs1 cells slots Q (F0 m (pc + 3) ls rest)) : W p l e R s m args below meth c H locs cells slots Q (F0 m pc ls (v :: .ref a :: rest)) :=
  va_putF (D := D) (ty := ty j) S.1 S.2.1 S.2.2.2.2 (fun w hw => List.mem_cons_of_mem _ (hC.2.1 w hw)) ty hC.2.2.1 hC.2.2.2 S.2.2.2.1 hK hP hD hS i0 he hC.1 j hj (S.2.2.2.2 _ (List.mem_cons_of_mem _ hl)) (fun _ h => h) hfin hin hdecl (hC.2.2.1 j hj) hn hfit hlen hdg kk
theorem zr_putN (S : CallFix p m c cc nL s args (q0 :: zw_tb) own) (hK : va_K D vwCl (ztys tc) s) (hP : va_P D vwCl ws H) (hD : va_D A ws) (hS : va_S A H0 H locs) {ci : Nat} {C : String} {T : u_T} {N : Nat} {ty : Nat → FieldType} (hC : zCl ci C T N ty) (i0 : Nat) {a : Nat} {fs : List Value} (he : ws[i0]? = some (a, .inr (ci, fs))) (j : Nat) (hj : j < N) {index : Nat} {v : Value} (hfin : (T j).2.2.2 = false) (hn : narrow (ty j) v = v) (hfit : fits (ty j) v = true) (hlen : j < fs.length) (hl : Cond.fieldLink own index (T j).1 (T j).2.1 (T j).2.2.1 ∈ zw_tb) (hdg : decode cc pc = .ok (.putfield index, 3))
    (kk : ∀ (H1 : Heap) (locs1 : List Loc), va_P D vwCl (ws.set i0 (a, .inr (ci, fs.set j v))) H1 → va_D A (ws.set i0 (a, .inr (ci, fs.set j v))) → va_S A H0 H1 locs1 → W p l e R s m args below meth c H1 locs1 cells slots Q (F0 m (pc + 3) ls rest)) : W p l e R s m args below meth c H locs cells slots Q (F0 m pc ls (v :: .ref a :: rest)) :=
  va_put (D := D) (ty := ty j) S.1 S.2.1 S.2.2.2.2 (fun w hw => List.mem_cons_of_mem _ (hC.2.1 w hw)) ty hC.2.2.1 hC.2.2.2 S.2.2.2.1 hK hP hD hS i0 he hC.1 j hj (S.2.2.2.2 _ (List.mem_cons_of_mem _ hl)) (fun _ h => h) hfin (hC.2.2.1 j hj) hn hfit hlen hdg kk
theorem zr_obj (S : CallFix p m c cc nL s args (q0 :: zw_tb) own) {idx a : Nat} (hl : Cond.methodLink own idx objectInit ∈ zw_tb) (hls : ls.size = nL) (hR : 1 ≤ R.frames ∧ (rest.map fun v => v.category).sum + 12 ≤ R.locals) (hdg : decode cc pc = .ok (.invokespecial idx, 3))
    (kk : W p l e R s m args below meth c H locs cells slots Q (F0 m (pc + 3) ls rest)) : W p l e R s m args below meth c H locs cells slots Q (F0 m pc ls (.ref a :: rest)) := by
  refine W.objInit S.1 S.2.1 S.2.2.2.1 (S.2.2.2.2 _ (List.mem_cons_of_mem _ hl)) (S.2.2.2.2 _ (List.mem_cons_of_mem _ qo_1)) (S.2.2.2.2 _ (List.mem_cons_of_mem _ qo_2)) rfl (hls.trans S.2.2.1.symm) rfl hdg hR.1 ?_ kk
  have h := hR.2
  show 2 * (F0 m pc ls (.ref a :: rest)).monitorRoom + (rest.map fun v => v.category).sum + 12 ≤ R.locals
  have e : (F0 m pc ls (.ref a :: rest)).monitorRoom = 0 := rfl
  rw [e]
  omega
end ZN
/-- a constructor's entry over a list of cells -/
def zB (D : va_G) (tc : Nat → ClassId) (lo : Nat) (ws : va_W) (U : State) : Prop := lo ≤ U.heap.size ∧ va_P D vwCl ws U.heap ∧ va_D (fun a => lo ≤ a) ws ∧ va_K D vwCl (ztys tc) U ∧ zn_U U
theorem zr_entryB {l : Launch} {y : MethodName} {b : ByteArray} {nL : Nat} {ret : Option FieldType} {rm : Room} {D : va_G} {tc : Nat → ClassId} {lo : Nat} {ws : va_W} {av : List Value} {Qc : Array Value → State → Outcome → State → Prop} {mc ms : Nat} {free : Addr → Prop}
    (hy : plainName y.cls = true) (hn : (lg_sl av).length ≤ nL)
    (kk : ∀ (p : Program) (e : Env) (s : State) (m : MethodId) (args : Array Value) (below : List Frame) (meth : Method) (c : Code) (ls : Array Slot), CallFix p m c b nL s args (Cond.code y b nL ret :: zw_tb) y.cls → lo ≤ s.heap.size → zn_U s → va_K D vwCl (ztys tc) s → meth.sig.returnType = ret → meth.locks = false → meth.name = y.name → va_P D vwCl ws s.heap → va_D (fun a => lo ≤ a) ws → va_S (fun a => lo ≤ a) s.heap s.heap [] → lv_has ls nL (lv_args 0 av) → W p l e rm s m args below meth c s.heap [] 0 0 (MQ below Qc args s mc ms free) (F0 m 0 ls [])) :
    Met l y (zw_of y b nL ret) rm (va_Pc av (zB D tc lo ws)) Qc mc ms free := by
  refine Met.ofW (cc := b) (maxL := nL) (ret := ret) hy rfl ?_
  intro p e s m args below meth c s₁ B hml hv
  obtain ⟨hav, hlo, hP, hD, hK, hnw⟩ := hv
  have hl := lv_entry av hn
  have ht := atoms_spec (ws := zw_of y b nL ret) B.pre
  have hres := kk p e s m args below meth c ((lg_sl av ++ List.replicate (nL - (lg_sl av).length) Slot.unset).toArray) ⟨B.exec, B.bytes, hml, findClass_of_methodNamed B.named, ht⟩ hlo hnw hK B.returns B.notSynchronized (name_of_methodNamed B.named B.method).1 hP hD va_S.rf hl
  rw [hav, lg_entry_eq]
  rw [hav] at hres
  exact hres
