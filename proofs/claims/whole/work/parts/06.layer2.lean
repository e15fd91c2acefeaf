/-! ===== the heap of a side: its own cells, and a frame that stays ===== -/
def zH (D : va_G) (tc : Nat → ClassId) (lo : Nat) (ad : Nat → Nat) (sh : zz_G → Nat → zz_S) (nn : zz_G → Nat) (fr : va_W) (w : zz_W) (H : Heap) : Prop := va_P D vwCl (zws ad tc sh nn w ++ fr) H ∧ va_D (fun a => lo ≤ a) (zws ad tc sh nn w ++ fr)
def zE (D : va_G) (tc : Nat → ClassId) (lo : Nat) (ad : Nat → Nat) (sh : zz_G → Nat → zz_S) (nn : zz_G → Nat) (fr : va_W) (w : zz_W) (H0 H : Heap) (locs : List Loc) : Prop := zH D tc lo ad sh nn fr w H ∧ va_S (fun a => lo ≤ a) H0 H locs
/-- what a place is -/
def zAt (sh : zz_G → Nat → zz_S) (nn : zz_G → Nat) (w : zz_W) (k : Nat) (x : zz_S) : Prop := k < nn w.2.2.2 ∧ sh w.2.2.2 k = x
theorem zAt.get {sh : zz_G → Nat → zz_S} {nn : zz_G → Nat} {w : zz_W} {k : Nat} {x : zz_S} (h : zAt sh nn w k x) (ad : Nat → Nat) (tc : Nat → ClassId) (fr : va_W) : (zws ad tc sh nn w ++ fr)[k]? = some (ad k, zpic ad tc w k x) := by
  rw [zws_get h.1, h.2]
theorem zAt.set {sh : zz_G → Nat → zz_S} {nn : zz_G → Nat} {w w' : zz_W} {k : Nat} {x : zz_S} (h : zAt sh nn w k x) (ad : Nat → Nat) (tc : Nat → ClassId) (fr : va_W) (hg : w'.2.2.2 = w.2.2.2) (hI : ∀ j i, j ≠ k → zgI w' j i = zgI w j i) (hL : ∀ j i, j ≠ k → zgL w' j i = zgL w j i) (hR : ∀ j i, j ≠ k → zgR w' j i = zgR w j i) : (zws ad tc sh nn w ++ fr).set k (ad k, zpic ad tc w' k x) = zws ad tc sh nn w' ++ fr := by
  have h2 := zws_set (ad := ad) (tc := tc) (sh := sh) (nn := nn) (w := w) (w' := w') (fr := fr) h.1 hg (fun j x hj => zpic_oth (fun i => hI j i hj) (fun i => hL j i hj) (fun i => hR j i hj) x)
  rw [h.2] at h2
  exact h2
def zin (i : Int32) (n : Nat) : Bool := !(decide (i < 0) || decide (n ≤ i.toNatClampNeg))
theorem zin_vp {i : Int32} {n : Nat} (h : zin i n = true) : vp_in i n := by
  intro q
  rcases q with q | q
  · simp [zin, q] at h
  · simp [zin, q] at h
/-! the partial steps: none where the machine would throw -/
def zldI (w : zz_W) (k n : Nat) (i : Int32) : Option Int32 := if zin i n = true then some (zgI w k i.toNatClampNeg) else none
def zldL (w : zz_W) (k n : Nat) (i : Int32) : Option Int64 := if zin i n = true then some (zgL w k i.toNatClampNeg) else none
def zldR (w : zz_W) (k n : Nat) (i : Int32) : Option (Option Nat) := if zin i n = true then some (zgR w k i.toNatClampNeg) else none
def zldQ (n : Nat) (i : Int32) (q : Nat → Nat) : Option Nat := if zin i n = true then some (q i.toNatClampNeg) else none
def zstI (w : zz_W) (k n : Nat) (i v : Int32) : Option zz_W := if zin i n = true then some (zsI w k i.toNatClampNeg v) else none
def zstL (w : zz_W) (k n : Nat) (i : Int32) (v : Int64) : Option zz_W := if zin i n = true then some (zsL w k i.toNatClampNeg v) else none
def zdiv (x y : Int32) : Option Int32 := if y = 0 then none else some (x / y)
def zrem (x y : Int32) : Option Int32 := if y = 0 then none else some (x - x / y * y)
def zldiv (x y : Int64) : Option Int64 := if y = 0 then none else some (x / y)
def zboo (v : Int32) : Option Int32 := if v = 0 ∨ v = 1 then some v else none
def zgrd {α : Type} (b : Bool) (x : Option α) : Option α := if b = true then x else none
def zbd {α β : Type} (x : Option α) (f : α → Option β) : Option β := match x with
  | some a => f a
  | none => none
def zbd2 {α γ β : Type} (x : Option (α × γ)) (f : α → γ → Option β) : Option β := match x with
  | some (a, c) => f a c
  | none => none
theorem zbdE {α β : Type} {x : Option α} {f : α → Option β} {r : β} (h : zbd x f = some r) : ∃ a, x = some a ∧ f a = some r := by
  cases x with
  | none => cases h
  | some a => exact ⟨a, rfl, h⟩
theorem zbd2E {α γ β : Type} {x : Option (α × γ)} {f : α → γ → Option β} {r : β} (h : zbd2 x f = some r) : ∃ a c, x = some (a, c) ∧ f a c = some r := by
  cases x with
  | none => cases h
  | some a => exact ⟨a.1, a.2, rfl, h⟩
theorem zgrdE {α : Type} {b : Bool} {x : Option α} {r : α} (h : zgrd b x = some r) : b = true ∧ x = some r := by
  cases b with
  | false => cases h
  | true => exact ⟨rfl, h⟩
theorem zif {α : Type} {c : Prop} {d : Decidable c} {x y : Option α} {r : α} (hc : c) (h : (@ite _ c d x y) = some r) : x = some r := by rw [if_pos hc] at h; exact h
theorem zif' {α : Type} {c : Prop} {d : Decidable c} {x y : Option α} {r : α} (hc : ¬ c) (h : (@ite _ c d x y) = some r) : y = some r := by rw [if_neg hc] at h; exact h
theorem zldI_in {w : zz_W} {k n : Nat} {i v : Int32} (h : zldI w k n i = some v) : vp_in i n ∧ zgI w k i.toNatClampNeg = v := by
  unfold zldI at h
  by_cases hz : zin i n = true
  · rw [if_pos hz] at h; exact ⟨zin_vp hz, Option.some.inj h⟩
  · rw [if_neg hz] at h; cases h
theorem zldL_in {w : zz_W} {k n : Nat} {i : Int32} {v : Int64} (h : zldL w k n i = some v) : vp_in i n ∧ zgL w k i.toNatClampNeg = v := by
  unfold zldL at h
  by_cases hz : zin i n = true
  · rw [if_pos hz] at h; exact ⟨zin_vp hz, Option.some.inj h⟩
  · rw [if_neg hz] at h; cases h
theorem zldR_in {w : zz_W} {k n : Nat} {i : Int32} {v : Option Nat} (h : zldR w k n i = some v) : vp_in i n ∧ zgR w k i.toNatClampNeg = v := by
  unfold zldR at h
  by_cases hz : zin i n = true
  · rw [if_pos hz] at h; exact ⟨zin_vp hz, Option.some.inj h⟩
  · rw [if_neg hz] at h; cases h
theorem zldQ_in {n : Nat} {i : Int32} {q : Nat → Nat} {v : Nat} (h : zldQ n i q = some v) : vp_in i n ∧ q i.toNatClampNeg = v := by
  unfold zldQ at h
  by_cases hz : zin i n = true
  · rw [if_pos hz] at h; exact ⟨zin_vp hz, Option.some.inj h⟩
  · rw [if_neg hz] at h; cases h
theorem zstI_in {w w' : zz_W} {k n : Nat} {i v : Int32} (h : zstI w k n i v = some w') : vp_in i n ∧ zsI w k i.toNatClampNeg v = w' := by
  unfold zstI at h
  by_cases hz : zin i n = true
  · rw [if_pos hz] at h; exact ⟨zin_vp hz, Option.some.inj h⟩
  · rw [if_neg hz] at h; cases h
theorem zstL_in {w w' : zz_W} {k n : Nat} {i : Int32} {v : Int64} (h : zstL w k n i v = some w') : vp_in i n ∧ zsL w k i.toNatClampNeg v = w' := by
  unfold zstL at h
  by_cases hz : zin i n = true
  · rw [if_pos hz] at h; exact ⟨zin_vp hz, Option.some.inj h⟩
  · rw [if_neg hz] at h; cases h
theorem zdiv_in {x y v : Int32} (h : zdiv x y = some v) : ¬ y = 0 ∧ x / y = v := by
  unfold zdiv at h
  by_cases hz : y = 0
  · rw [if_pos hz] at h; cases h
  · rw [if_neg hz] at h; exact ⟨hz, Option.some.inj h⟩
theorem zrem_in {x y v : Int32} (h : zrem x y = some v) : ¬ y = 0 ∧ x - x / y * y = v := by
  unfold zrem at h
  by_cases hz : y = 0
  · rw [if_pos hz] at h; cases h
  · rw [if_neg hz] at h; exact ⟨hz, Option.some.inj h⟩
theorem zldiv_in {x y v : Int64} (h : zldiv x y = some v) : ¬ y = 0 ∧ x / y = v := by
  unfold zldiv at h
  by_cases hz : y = 0
  · rw [if_pos hz] at h; cases h
  · rw [if_neg hz] at h; exact ⟨hz, Option.some.inj h⟩
theorem zboo_in {v u : Int32} (h : zboo v = some u) : v = u ∧ narrow .boolean (.int u) = .int u := by
  unfold zboo at h
  by_cases hz : v = 0 ∨ v = 1
  · rw [if_pos hz] at h
    have e := Option.some.inj h
    subst e
    exact ⟨rfl, by rcases hz with rfl | rfl <;> rfl⟩
  · rw [if_neg hz] at h; cases h
def zcpI (w : zz_W) (k0 n0 : Nat) (sp : Int32) (k1 n1 : Nat) (dp n : Int32) : Option zz_W := if ¬ sp < 0 ∧ ¬ dp < 0 ∧ ¬ n < 0 ∧ sp.toNatClampNeg + n.toNatClampNeg ≤ n0 ∧ dp.toNatClampNeg + n.toNatClampNeg ≤ n1 then some (zcI w k0 sp.toNatClampNeg k1 dp.toNatClampNeg n.toNatClampNeg) else none
def zcpL (w : zz_W) (k0 n0 : Nat) (sp : Int32) (k1 n1 : Nat) (dp n : Int32) : Option zz_W := if ¬ sp < 0 ∧ ¬ dp < 0 ∧ ¬ n < 0 ∧ sp.toNatClampNeg + n.toNatClampNeg ≤ n0 ∧ dp.toNatClampNeg + n.toNatClampNeg ≤ n1 then some (zcL w k0 sp.toNatClampNeg k1 dp.toNatClampNeg n.toNatClampNeg) else none
theorem zcpI_in {w w' : zz_W} {k0 n0 k1 n1 : Nat} {sp dp n : Int32} (h : zcpI w k0 n0 sp k1 n1 dp n = some w') : (¬ sp < 0 ∧ ¬ dp < 0 ∧ ¬ n < 0 ∧ sp.toNatClampNeg + n.toNatClampNeg ≤ n0 ∧ dp.toNatClampNeg + n.toNatClampNeg ≤ n1) ∧ zcI w k0 sp.toNatClampNeg k1 dp.toNatClampNeg n.toNatClampNeg = w' := by
  unfold zcpI at h
  by_cases hz : ¬ sp < 0 ∧ ¬ dp < 0 ∧ ¬ n < 0 ∧ sp.toNatClampNeg + n.toNatClampNeg ≤ n0 ∧ dp.toNatClampNeg + n.toNatClampNeg ≤ n1
  · rw [if_pos hz] at h; exact ⟨hz, Option.some.inj h⟩
  · rw [if_neg hz] at h; cases h
theorem zcpL_in {w w' : zz_W} {k0 n0 k1 n1 : Nat} {sp dp n : Int32} (h : zcpL w k0 n0 sp k1 n1 dp n = some w') : (¬ sp < 0 ∧ ¬ dp < 0 ∧ ¬ n < 0 ∧ sp.toNatClampNeg + n.toNatClampNeg ≤ n0 ∧ dp.toNatClampNeg + n.toNatClampNeg ≤ n1) ∧ zcL w k0 sp.toNatClampNeg k1 dp.toNatClampNeg n.toNatClampNeg = w' := by
  unfold zcpL at h
  by_cases hz : ¬ sp < 0 ∧ ¬ dp < 0 ∧ ¬ n < 0 ∧ sp.toNatClampNeg + n.toNatClampNeg ≤ n0 ∧ dp.toNatClampNeg + n.toNatClampNeg ≤ n1
  · rw [if_pos hz] at h; exact ⟨hz, Option.some.inj h⟩
  · rw [if_neg hz] at h; cases h
/-! ===== what never changes: statics, String constants ===== -/
abbrev zz_Q : Type := (Nat → Nat) × (Nat → Nat) × Nat × Nat
def zABOVE : Nat → Int32
  | 0 => -1
  | 1 => 0
  | 2 => 0
  | 3 => 1
  | 4 => 2
  | _ => 0
def zMINS : Nat → Int32
  | 0 => 1
  | 1 => 2
  | 2 => 3
  | _ => 9
def zlen : List Nat := [4, 3, 4, 3, 2, 2]
def zbyt : List (List Int32) := [[104, 117, 114, 116], [102, 101, 101], [102, 105, 110, 101], [100, 109, 108], [99, 116], [111, 100]]
def zsx : Nat → Nat × String
  | 0 => (82, "hurt")
  | 1 => (88, "fee")
  | 2 => (90, "fine")
  | 3 => (135, "dml")
  | 4 => (137, "ct")
  | _ => (139, "od")
def zSt (lo : Nat) (q : zz_Q) (U : State) (H : Heap) : Prop :=
  va_Z "BehindWall$Kinds" "ABOVE" "[I" (.ref q.2.2.1) (fun a => lo ≤ a) U H ∧ va_T .int q.2.2.1 6 (fun j => .int (zABOVE j)) (fun a => lo ≤ a) U H ∧
  va_Z "BehindWall$Wall" "MINUTES_OF" "[I" (.ref q.2.2.2) (fun a => lo ≤ a) U H ∧ va_T .int q.2.2.2 4 (fun j => .int (zMINS j)) (fun a => lo ≤ a) U H ∧
  va_Z "java/lang/String" "COMPACT_STRINGS" "Z" (.int 1) (fun a => lo ≤ a) U H ∧ vk_S 6 zlen zbyt q.1 q.2.1 (fun a => lo ≤ a) U H ∧
  (∀ i, i < 6 → vk_R "BehindWall$Tape" (zsx i).1 (zsx i).2 (q.1 i) U) ∧ va_Zq "jdk/internal/util/Preconditions" "SIOOBE_FORMATTER" "Ljava/util/function/BiFunction;" (fun a => lo ≤ a) U H
theorem zSt.call {lo : Nat} {q : zz_Q} {s U : State} {H : Heap} {locs : List Loc} (h : zSt lo q s s.heap) (hS : va_S (fun a => lo ≤ a) s.heap H locs) (hW : s.WarmedH U.vm) (hU : U.heap = H) : zSt lo q U U.heap := by
  obtain ⟨h1, h2, h3, h4, h5, h6, h7, h8⟩ := h
  rw [hU]
  exact ⟨va_Z.moved hW.alike (h1.kept hS.2.1), va_T.moved hW.alike (h2.kept hS.2.1), va_Z.moved hW.alike (h3.kept hS.2.1), va_T.moved hW.alike (h4.kept hS.2.1), va_Z.moved hW.alike (h5.kept hS.2.1), vk_S.moved hW.alike (h6.kept hS.2.1), fun i hi => vk_R.warm hW (h7 i hi), va_Zq.moved hW.alike (h8.kept hS.2.1)⟩
theorem zSt.blind {lo : Nat} {q : zz_Q} {U V : State} (h : zSt lo q U U.heap) (hv : V.vm = U.vm) (hh : V.heap = U.heap) : zSt lo q V V.heap := by
  obtain ⟨h1, h2, h3, h4, h5, h6, h7, h8⟩ := h
  have ha : U.vm.Alike V.vm := by rw [hv]; exact Vm.Alike.refl U.vm
  rw [hh]
  exact ⟨va_Z.moved ha h1, va_T.moved ha h2, va_Z.moved ha h3, va_T.moved ha h4, va_Z.moved ha h5, vk_S.moved ha h6, fun i hi => vk_R.same hv (h7 i hi), va_Zq.moved ha h8⟩
/-! ===== contracts ===== -/
def zPre (D : va_G) (tc : Nat → ClassId) (lo : Nat) (ad : Nat → Nat) (sh : zz_G → Nat → zz_S) (nn : zz_G → Nat) (fr : va_W) (zq : zz_Q) (w : zz_W) (U : State) : Prop := lo ≤ U.heap.size ∧ zH D tc lo ad sh nn fr w U.heap ∧ va_K D vwCl (ztys tc) U ∧ zn_U U ∧ zSt lo zq U U.heap
abbrev zMi (l : Launch) (y : MethodName) (b : ByteArray) (nL : Nat) (ret : Option FieldType) (rm : Room) (D : va_G) (tc : Nat → ClassId) (lo : Nat) (ad : Nat → Nat) (sh : zz_G → Nat → zz_S) (nn : zz_G → Nat) (fr : va_W) (zq : zz_Q) (av : List Value) (w : zz_W) (r : Int32) (w' : zz_W) : Prop :=
  Met l y (zw_of y b nL ret) rm (va_Pc av (zPre D tc lo ad sh nn fr zq w)) (va_Qi (fun x u => x = r ∧ u = w') (fun u t => zH D tc lo ad sh nn fr u t.heap) (fun a => lo ≤ a)) rm.cells rm.slots (fun a => lo ≤ a)
abbrev zMl (l : Launch) (y : MethodName) (b : ByteArray) (nL : Nat) (ret : Option FieldType) (rm : Room) (D : va_G) (tc : Nat → ClassId) (lo : Nat) (ad : Nat → Nat) (sh : zz_G → Nat → zz_S) (nn : zz_G → Nat) (fr : va_W) (zq : zz_Q) (av : List Value) (w : zz_W) (r : Int64) (w' : zz_W) : Prop :=
  Met l y (zw_of y b nL ret) rm (va_Pc av (zPre D tc lo ad sh nn fr zq w)) (va_Ql (fun x u => x = r ∧ u = w') (fun u t => zH D tc lo ad sh nn fr u t.heap) (fun a => lo ≤ a)) rm.cells rm.slots (fun a => lo ≤ a)
abbrev zMv (l : Launch) (y : MethodName) (b : ByteArray) (nL : Nat) (ret : Option FieldType) (rm : Room) (D : va_G) (tc : Nat → ClassId) (lo : Nat) (ad : Nat → Nat) (sh : zz_G → Nat → zz_S) (nn : zz_G → Nat) (fr : va_W) (zq : zz_Q) (av : List Value) (w : zz_W) (w' : zz_W) : Prop :=
  Met l y (zw_of y b nL ret) rm (va_Pc av (zPre D tc lo ad sh nn fr zq w)) (va_Qv (fun u => u = w') (fun u t => zH D tc lo ad sh nn fr u t.heap) (fun a => lo ≤ a)) rm.cells rm.slots (fun a => lo ≤ a)
section ZR
variable {p : Program} {l : Launch} {e : Env} {R : Room} {s : State} {m : MethodId} {args : Array Value} {below : List Frame} {meth : Method} {c : Code} {H : Heap} {locs : List Loc} {cells slots : Nat} {Q : State → Prop}
variable {cc : ByteArray} {pc nL : Nat} {ls : Array Slot} {rest : List Value} {q0 : Cond} {own : String}
variable {D : va_G} {tc : Nat → ClassId} {lo : Nat} {ad : Nat → Nat} {sh : zz_G → Nat → zz_S} {nn : zz_G → Nat} {fr : va_W} {w w' : zz_W} {zq : zz_Q}
variable {ci : Nat} {C : String} {T : u_T} {N : Nat} {ty : Nat → FieldType} {fds : List Nat} {k n : Nat}
theorem zr_getV (S : CallFix p m c cc nL s args (q0 :: zw_tb) own) (hK : va_K D vwCl (ztys tc) s) (hE : zE D tc lo ad sh nn fr w s.heap H locs) (hC : zCl ci C T N ty) (ha : zAt sh nn w k (.inr (ci, fds))) (j : Nat) (hj : j < N) {f index : Nat} (hf : fds[j]? = some f) (hl : Cond.fieldLink own index (T j).1 (T j).2.1 (T j).2.2.1 ∈ zw_tb) (hdg : decode cc pc = .ok (.getfield index, 3))
    (kk : W p l e R s m args below meth c H locs cells slots Q (F0 m (pc + 3) ls (zval ad w k j f :: rest))) : W p l e R s m args below meth c H locs cells slots Q (F0 m pc ls (.ref (ad k) :: rest)) :=
  va_get (D := D) (v := zval ad w k j f) S.1 S.2.1 S.2.2.2.2 (fun w hw => List.mem_cons_of_mem _ (hC.2.1 w hw)) S.2.2.2.1 hK hE.1.1 k (ha.get ad tc fr) hC.1 j hj (S.2.2.2.2 _ (List.mem_cons_of_mem _ hl)) (fun _ h => h) (by rw [zfv_get, hf]; simp) hdg kk
theorem zr_getI (S : CallFix p m c cc nL s args (q0 :: zw_tb) own) (hK : va_K D vwCl (ztys tc) s) (hE : zE D tc lo ad sh nn fr w s.heap H locs) (hC : zCl ci C T N ty) (ha : zAt sh nn w k (.inr (ci, fds))) (j : Nat) (hj : j < N) {index : Nat} (hf : fds[j]? = some 0) (hl : Cond.fieldLink own index (T j).1 (T j).2.1 (T j).2.2.1 ∈ zw_tb) (hdg : decode cc pc = .ok (.getfield index, 3)) {v : Int32} (hv : some (zgI w k j) = some v)
    (kk : W p l e R s m args below meth c H locs cells slots Q (F0 m (pc + 3) ls (.int v :: rest))) : W p l e R s m args below meth c H locs cells slots Q (F0 m pc ls (.ref (ad k) :: rest)) := by
  cases hv; exact zr_getV S hK hE hC ha j hj hf hl hdg kk
theorem zr_getL (S : CallFix p m c cc nL s args (q0 :: zw_tb) own) (hK : va_K D vwCl (ztys tc) s) (hE : zE D tc lo ad sh nn fr w s.heap H locs) (hC : zCl ci C T N ty) (ha : zAt sh nn w k (.inr (ci, fds))) (j : Nat) (hj : j < N) {index : Nat} (hf : fds[j]? = some 1) (hl : Cond.fieldLink own index (T j).1 (T j).2.1 (T j).2.2.1 ∈ zw_tb) (hdg : decode cc pc = .ok (.getfield index, 3)) {v : Int64} (hv : some (zgL w k j) = some v)
    (kk : W p l e R s m args below meth c H locs cells slots Q (F0 m (pc + 3) ls (.long v :: rest))) : W p l e R s m args below meth c H locs cells slots Q (F0 m pc ls (.ref (ad k) :: rest)) := by
  cases hv; exact zr_getV S hK hE hC ha j hj hf hl hdg kk
theorem zr_getA (S : CallFix p m c cc nL s args (q0 :: zw_tb) own) (hK : va_K D vwCl (ztys tc) s) (hE : zE D tc lo ad sh nn fr w s.heap H locs) (hC : zCl ci C T N ty) (ha : zAt sh nn w k (.inr (ci, fds))) (j : Nat) (hj : j < N) {q index : Nat} (hf : fds[j]? = some (q + 2)) (hl : Cond.fieldLink own index (T j).1 (T j).2.1 (T j).2.2.1 ∈ zw_tb) (hdg : decode cc pc = .ok (.getfield index, 3))
    (kk : W p l e R s m args below meth c H locs cells slots Q (F0 m (pc + 3) ls (.ref (ad q) :: rest))) : W p l e R s m args below meth c H locs cells slots Q (F0 m pc ls (.ref (ad k) :: rest)) :=
  zr_getV S hK hE hC ha j hj hf hl hdg kk
theorem zsI_oI {w : zz_W} {k i : Nat} {v : Int32} : ∀ a b, a ≠ k → zgI (zsI w k i v) a b = zgI w a b := fun a b h => by simp [zgI, zsI, h]
theorem zsL_oL {w : zz_W} {k i : Nat} {v : Int64} : ∀ a b, a ≠ k → zgL (zsL w k i v) a b = zgL w a b := fun a b h => by simp [zgL, zsL, h]
theorem zsR_oR {w : zz_W} {k i : Nat} {v : Option Nat} : ∀ a b, a ≠ k → zgR (zsR w k i v) a b = zgR w a b := fun a b h => by simp [zgR, zsR, h]
theorem zE_set {H0 H1 : Heap} {locs1 : List Loc} {x : zz_S} {y : va_E} (ha : zAt sh nn w k x) (hy : zpic ad tc w' k x = y) (hg : w'.2.2.2 = w.2.2.2) (hI : ∀ j i, j ≠ k → zgI w' j i = zgI w j i) (hL : ∀ j i, j ≠ k → zgL w' j i = zgL w j i) (hR : ∀ j i, j ≠ k → zgR w' j i = zgR w j i)
    (hP : va_P D vwCl ((zws ad tc sh nn w ++ fr).set k (ad k, y)) H1) (hD : va_D (fun a => lo ≤ a) ((zws ad tc sh nn w ++ fr).set k (ad k, y))) (hS : va_S (fun a => lo ≤ a) H0 H1 locs1) : zE D tc lo ad sh nn fr w' H0 H1 locs1 := by
  subst hy
  rw [ha.set ad tc fr hg hI hL hR] at hP hD
  exact ⟨⟨hP, hD⟩, hS⟩
theorem zr_putB (S : CallFix p m c cc nL s args (q0 :: zw_tb) own) (hK : va_K D vwCl (ztys tc) s) (hE : zE D tc lo ad sh nn fr w s.heap H locs) (hC : zCl ci C T N ty) (ha : zAt sh nn w k (.inr (ci, fds))) (j : Nat) (hj : j < N) {index : Nat} (hf : fds[j]? = some 0) {v : Int32} (hn : narrow (ty j) (.int v) = .int v) (hfit : fits (ty j) (.int v) = true) (hfin : (T j).2.2.2 = false) (hl : Cond.fieldLink own index (T j).1 (T j).2.1 (T j).2.2.1 ∈ zw_tb) (hdg : decode cc pc = .ok (.putfield index, 3)) (hv : some (zsI w k j v) = some w')
    (kk : ∀ (H1 : Heap) (locs1 : List Loc), zE D tc lo ad sh nn fr w' s.heap H1 locs1 → W p l e R s m args below meth c H1 locs1 cells slots Q (F0 m (pc + 3) ls rest)) : W p l e R s m args below meth c H locs cells slots Q (F0 m pc ls (.int v :: .ref (ad k) :: rest)) := by
  cases hv
  refine va_put (D := D) (v := .int v) (ty := ty j) S.1 S.2.1 S.2.2.2.2 (fun w hw => List.mem_cons_of_mem _ (hC.2.1 w hw)) ty hC.2.2.1 hC.2.2.2 S.2.2.2.1 hK hE.1.1 hE.1.2 hE.2 k (ha.get ad tc fr) hC.1 j hj (S.2.2.2.2 _ (List.mem_cons_of_mem _ hl)) (fun _ h => h) hfin (hC.2.2.1 j hj) hn hfit (by rw [zfv_len]; exact (List.getElem?_eq_some_iff.mp hf).1) hdg (fun H1 locs1 hP hD hS => kk H1 locs1 ?_)
  exact zE_set (w' := zsI w k j v) ha (show (Sum.inr (ci, zfv ad (zsI w k j v) k 0 fds) : va_E) = _ by rw [zfv_setI hf]) rfl zsI_oI (fun _ _ _ => rfl) (fun _ _ _ => rfl) hP hD hS
theorem zr_putI (S : CallFix p m c cc nL s args (q0 :: zw_tb) own) (hK : va_K D vwCl (ztys tc) s) (hE : zE D tc lo ad sh nn fr w s.heap H locs) (hC : zCl ci C T N ty) (ha : zAt sh nn w k (.inr (ci, fds))) (j : Nat) (hj : j < N) {index : Nat} (hf : fds[j]? = some 0) {v : Int32} (hty : ty j = .int) (hfin : (T j).2.2.2 = false) (hl : Cond.fieldLink own index (T j).1 (T j).2.1 (T j).2.2.1 ∈ zw_tb) (hdg : decode cc pc = .ok (.putfield index, 3)) (hv : some (zsI w k j v) = some w')
    (kk : ∀ (H1 : Heap) (locs1 : List Loc), zE D tc lo ad sh nn fr w' s.heap H1 locs1 → W p l e R s m args below meth c H1 locs1 cells slots Q (F0 m (pc + 3) ls rest)) : W p l e R s m args below meth c H locs cells slots Q (F0 m pc ls (.int v :: .ref (ad k) :: rest)) :=
  zr_putB S hK hE hC ha j hj hf (by rw [hty]; rfl) (by rw [hty]; rfl) hfin hl hdg hv kk
theorem zr_putL (S : CallFix p m c cc nL s args (q0 :: zw_tb) own) (hK : va_K D vwCl (ztys tc) s) (hE : zE D tc lo ad sh nn fr w s.heap H locs) (hC : zCl ci C T N ty) (ha : zAt sh nn w k (.inr (ci, fds))) (j : Nat) (hj : j < N) {index : Nat} (hf : fds[j]? = some 1) {v : Int64} (hty : ty j = .long) (hfin : (T j).2.2.2 = false) (hl : Cond.fieldLink own index (T j).1 (T j).2.1 (T j).2.2.1 ∈ zw_tb) (hdg : decode cc pc = .ok (.putfield index, 3)) (hv : some (zsL w k j v) = some w')
    (kk : ∀ (H1 : Heap) (locs1 : List Loc), zE D tc lo ad sh nn fr w' s.heap H1 locs1 → W p l e R s m args below meth c H1 locs1 cells slots Q (F0 m (pc + 3) ls rest)) : W p l e R s m args below meth c H locs cells slots Q (F0 m pc ls (.long v :: .ref (ad k) :: rest)) := by
  cases hv
  refine va_put (D := D) (v := .long v) (ty := ty j) S.1 S.2.1 S.2.2.2.2 (fun w hw => List.mem_cons_of_mem _ (hC.2.1 w hw)) ty hC.2.2.1 hC.2.2.2 S.2.2.2.1 hK hE.1.1 hE.1.2 hE.2 k (ha.get ad tc fr) hC.1 j hj (S.2.2.2.2 _ (List.mem_cons_of_mem _ hl)) (fun _ h => h) hfin (hC.2.2.1 j hj) (by rw [hty]; rfl) (by rw [hty]; rfl) (by rw [zfv_len]; exact (List.getElem?_eq_some_iff.mp hf).1) hdg (fun H1 locs1 hP hD hS => kk H1 locs1 ?_)
  exact zE_set (w' := zsL w k j v) ha (show (Sum.inr (ci, zfv ad (zsL w k j v) k 0 fds) : va_E) = _ by rw [zfv_setL hf]) rfl (fun _ _ _ => rfl) zsL_oL (fun _ _ _ => rfl) hP hD hS
theorem zr_iald (S : CallFix p m c cc nL s args (q0 :: zw_tb) own) (hK : va_K D vwCl (ztys tc) s) (hE : zE D tc lo ad sh nn fr w s.heap H locs) (ha : zAt sh nn w k (.inl (0, n))) (hdg : decode cc pc = .ok (.iaload, 1)) {i v : Int32} (hv : zldI w k n i = some v)
    (kk : W p l e R s m args below meth c H locs cells slots Q (F0 m (pc + 1) ls (.int v :: rest))) : W p l e R s m args below meth c H locs cells slots Q (F0 m pc ls (.int i :: .ref (ad k) :: rest)) := by
  obtain ⟨h1, rfl⟩ := zldI_in hv
  exact va_iald (f := zgI w k) S.1 S.2.1 hK hE.1.1 k 0 (ha.get ad tc fr) rfl h1 hdg kk
theorem zr_zald (S : CallFix p m c cc nL s args (q0 :: zw_tb) own) (hK : va_K D vwCl (ztys tc) s) (hE : zE D tc lo ad sh nn fr w s.heap H locs) (ha : zAt sh nn w k (.inl (2, n))) (hdg : decode cc pc = .ok (.baload, 1)) {i v : Int32} (hv : zldI w k n i = some v)
    (kk : W p l e R s m args below meth c H locs cells slots Q (F0 m (pc + 1) ls (.int v :: rest))) : W p l e R s m args below meth c H locs cells slots Q (F0 m pc ls (.int i :: .ref (ad k) :: rest)) := by
  obtain ⟨h1, rfl⟩ := zldI_in hv
  exact va_zald (f := zgI w k) S.1 S.2.1 hK hE.1.1 k 2 (ha.get ad tc fr) rfl h1 hdg kk
theorem zr_cald (S : CallFix p m c cc nL s args (q0 :: zw_tb) own) (hK : va_K D vwCl (ztys tc) s) (hE : zE D tc lo ad sh nn fr w s.heap H locs) (ha : zAt sh nn w k (.inl (3, n))) (hdg : decode cc pc = .ok (.caload, 1)) {i v : Int32} (hv : zldI w k n i = some v)
    (kk : W p l e R s m args below meth c H locs cells slots Q (F0 m (pc + 1) ls (.int v :: rest))) : W p l e R s m args below meth c H locs cells slots Q (F0 m pc ls (.int i :: .ref (ad k) :: rest)) := by
  obtain ⟨h1, rfl⟩ := zldI_in hv
  exact va_cald (f := zgI w k) S.1 S.2.1 hK hE.1.1 k 3 (ha.get ad tc fr) rfl h1 hdg kk
theorem zr_lald (S : CallFix p m c cc nL s args (q0 :: zw_tb) own) (hK : va_K D vwCl (ztys tc) s) (hE : zE D tc lo ad sh nn fr w s.heap H locs) (ha : zAt sh nn w k (.inl (1, n))) (hdg : decode cc pc = .ok (.laload, 1)) {i : Int32} {v : Int64} (hv : zldL w k n i = some v)
    (kk : W p l e R s m args below meth c H locs cells slots Q (F0 m (pc + 1) ls (.long v :: rest))) : W p l e R s m args below meth c H locs cells slots Q (F0 m pc ls (.int i :: .ref (ad k) :: rest)) := by
  obtain ⟨h1, rfl⟩ := zldL_in hv
  exact va_lald (f := zgL w k) S.1 S.2.1 hK hE.1.1 k 1 (ha.get ad tc fr) rfl h1 hdg kk
theorem zr_aald4 (S : CallFix p m c cc nL s args (q0 :: zw_tb) own) (hK : va_K D vwCl (ztys tc) s) (hE : zE D tc lo ad sh nn fr w s.heap H locs) (ha : zAt sh nn w k (.inl (4, n))) (hdg : decode cc pc = .ok (.aaload, 1)) {i : Int32} {v : Nat} (hv : zldQ n i zq4 = some v)
    (kk : W p l e R s m args below meth c H locs cells slots Q (F0 m (pc + 1) ls (.ref (ad v) :: rest))) : W p l e R s m args below meth c H locs cells slots Q (F0 m pc ls (.int i :: .ref (ad k) :: rest)) := by
  obtain ⟨h1, rfl⟩ := zldQ_in hv
  exact va_aldq (f := fun i => some (ad (zq4 i))) S.1 S.2.1 hK hE.1.1 k 4 (ha.get ad tc fr) rfl h1 hdg kk
theorem zr_aald5 (S : CallFix p m c cc nL s args (q0 :: zw_tb) own) (hK : va_K D vwCl (ztys tc) s) (hE : zE D tc lo ad sh nn fr w s.heap H locs) (ha : zAt sh nn w k (.inl (5, n))) (hdg : decode cc pc = .ok (.aaload, 1)) {i : Int32} {v : Nat} (hv : zldQ n i zq5 = some v)
    (kk : W p l e R s m args below meth c H locs cells slots Q (F0 m (pc + 1) ls (.ref (ad v) :: rest))) : W p l e R s m args below meth c H locs cells slots Q (F0 m pc ls (.int i :: .ref (ad k) :: rest)) := by
  obtain ⟨h1, rfl⟩ := zldQ_in hv
  exact va_aldq (f := fun i => some (ad (zq5 i))) S.1 S.2.1 hK hE.1.1 k 5 (ha.get ad tc fr) rfl h1 hdg kk
theorem zr_aald6 (S : CallFix p m c cc nL s args (q0 :: zw_tb) own) (hK : va_K D vwCl (ztys tc) s) (hE : zE D tc lo ad sh nn fr w s.heap H locs) (ha : zAt sh nn w k (.inl (6, n))) (hdg : decode cc pc = .ok (.aaload, 1)) {i : Int32} {v : Option Nat} (hv : zldR w k n i = some v)
    (kk : W p l e R s m args below meth c H locs cells slots Q (F0 m (pc + 1) ls (va_rf (v.map ad) :: rest))) : W p l e R s m args below meth c H locs cells slots Q (F0 m pc ls (.int i :: .ref (ad k) :: rest)) := by
  obtain ⟨h1, rfl⟩ := zldR_in hv
  exact va_aldq (f := fun i => (zgR w k i).map ad) S.1 S.2.1 hK hE.1.1 k 6 (ha.get ad tc fr) rfl h1 hdg kk
theorem zr_iast (S : CallFix p m c cc nL s args (q0 :: zw_tb) own) (hK : va_K D vwCl (ztys tc) s) (hE : zE D tc lo ad sh nn fr w s.heap H locs) (ha : zAt sh nn w k (.inl (0, n))) (hdg : decode cc pc = .ok (.iastore, 1)) {i x : Int32} (hv : zstI w k n i x = some w')
    (kk : ∀ (H1 : Heap) (locs1 : List Loc), zE D tc lo ad sh nn fr w' s.heap H1 locs1 → W p l e R s m args below meth c H1 locs1 cells slots Q (F0 m (pc + 1) ls rest)) : W p l e R s m args below meth c H locs cells slots Q (F0 m pc ls (.int x :: .int i :: .ref (ad k) :: rest)) := by
  obtain ⟨h1, rfl⟩ := zstI_in hv
  refine va_iast (f := zgI w k) S.1 S.2.1 hK hE.1.1 hE.1.2 hE.2 k 0 (ha.get ad tc fr) rfl h1 hdg (fun H1 locs1 hP hD hS => kk H1 locs1 ?_)
  exact zE_set (w' := zsI w k i.toNatClampNeg x) ha (show (Sum.inl (tc 0, n, Sum.inl (zgI (zsI w k i.toNatClampNeg x) k)) : va_E) = _ by rw [zgI_row]) rfl zsI_oI (fun _ _ _ => rfl) (fun _ _ _ => rfl) hP hD hS
theorem zr_zast (S : CallFix p m c cc nL s args (q0 :: zw_tb) own) (hK : va_K D vwCl (ztys tc) s) (hE : zE D tc lo ad sh nn fr w s.heap H locs) (ha : zAt sh nn w k (.inl (2, n))) (hdg : decode cc pc = .ok (.bastore, 1)) {i x : Int32} (hv : zstI w k n i (vp_nar .boolean x) = some w')
    (kk : ∀ (H1 : Heap) (locs1 : List Loc), zE D tc lo ad sh nn fr w' s.heap H1 locs1 → W p l e R s m args below meth c H1 locs1 cells slots Q (F0 m (pc + 1) ls rest)) : W p l e R s m args below meth c H locs cells slots Q (F0 m pc ls (.int x :: .int i :: .ref (ad k) :: rest)) := by
  obtain ⟨h1, rfl⟩ := zstI_in hv
  refine va_zast (f := zgI w k) S.1 S.2.1 hK hE.1.1 hE.1.2 hE.2 k 2 (ha.get ad tc fr) rfl h1 hdg (fun H1 locs1 hP hD hS => kk H1 locs1 ?_)
  exact zE_set (w' := zsI w k i.toNatClampNeg (vp_nar .boolean x)) ha (show (Sum.inl (tc 2, n, Sum.inl (zgI (zsI w k i.toNatClampNeg (vp_nar .boolean x)) k)) : va_E) = _ by rw [zgI_row]) rfl zsI_oI (fun _ _ _ => rfl) (fun _ _ _ => rfl) hP hD hS
theorem zr_last (S : CallFix p m c cc nL s args (q0 :: zw_tb) own) (hK : va_K D vwCl (ztys tc) s) (hE : zE D tc lo ad sh nn fr w s.heap H locs) (ha : zAt sh nn w k (.inl (1, n))) (hdg : decode cc pc = .ok (.lastore, 1)) {i : Int32} {x : Int64} (hv : zstL w k n i x = some w')
    (kk : ∀ (H1 : Heap) (locs1 : List Loc), zE D tc lo ad sh nn fr w' s.heap H1 locs1 → W p l e R s m args below meth c H1 locs1 cells slots Q (F0 m (pc + 1) ls rest)) : W p l e R s m args below meth c H locs cells slots Q (F0 m pc ls (.long x :: .int i :: .ref (ad k) :: rest)) := by
  obtain ⟨h1, rfl⟩ := zstL_in hv
  refine va_last (f := zgL w k) S.1 S.2.1 hK hE.1.1 hE.1.2 hE.2 k 1 (ha.get ad tc fr) rfl h1 hdg (fun H1 locs1 hP hD hS => kk H1 locs1 ?_)
  exact zE_set (w' := zsL w k i.toNatClampNeg x) ha (show (Sum.inl (tc 1, n, Sum.inr (Sum.inl (zgL (zsL w k i.toNatClampNeg x) k))) : va_E) = _ by rw [zgL_row]) rfl (fun _ _ _ => rfl) zsL_oL (fun _ _ _ => rfl) hP hD hS
theorem zr_alen (S : CallFix p m c cc nL s args (q0 :: zw_tb) own) (hK : va_K D vwCl (ztys tc) s) (hE : zE D tc lo ad sh nn fr w s.heap H locs) {t : Nat} (ha : zAt sh nn w k (.inl (t, n))) (ht : (ztys tc)[t]? = some (tc t, zty t)) (hdg : decode cc pc = .ok (.arraylength, 1))
    (kk : W p l e R s m args below meth c H locs cells slots Q (F0 m (pc + 1) ls (.int (Int32.ofNat n) :: rest))) : W p l e R s m args below meth c H locs cells slots Q (F0 m pc ls (.ref (ad k) :: rest)) :=
  va_alen S.1 S.2.1 hK hE.1.1 k t (ha.get ad tc fr) ht rfl hdg kk
end ZR
