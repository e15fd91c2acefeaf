/-! ===== String constants, references to texts, what the library's own rows need ===== -/
def zldB (i : Nat) (j : Int32) : Option Int32 := if zin j (zlen.getD i 0) = true then some ((zbyt.getD i []).getD j.toNatClampNeg 0) else none
theorem zldB_in {i : Nat} {j v : Int32} (h : zldB i j = some v) : vp_in j (zlen.getD i 0) ∧ (zbyt.getD i []).getD j.toNatClampNeg 0 = v := by
  unfold zldB at h
  by_cases hz : zin j (zlen.getD i 0) = true
  · rw [if_pos hz] at h; exact ⟨zin_vp hz, Option.some.inj h⟩
  · rw [if_neg hz] at h; cases h
def zfit (ty : FieldType) (v : Int32) : Option Int32 := if vp_nar ty v = v then some v else none
theorem zfit_char {v u : Int32} (h : zfit .char v = some u) : v = u ∧ narrow .char (.int u) = .int u := by
  unfold zfit at h
  by_cases hz : vp_nar .char v = v
  · rw [if_pos hz] at h
    have e := Option.some.inj h
    subst e
    exact ⟨rfl, congrArg Value.int hz⟩
  · rw [if_neg hz] at h; cases h
theorem zfit_byte {v u : Int32} (h : zfit .byte v = some u) : v = u ∧ narrow .byte (.int u) = .int u := by
  unfold zfit at h
  by_cases hz : vp_nar .byte v = v
  · rw [if_pos hz] at h
    have e := Option.some.inj h
    subst e
    exact ⟨rfl, congrArg Value.int hz⟩
  · rw [if_neg hz] at h; cases h
def zstR (w : zz_W) (k n : Nat) (i : Int32) (v : Option Nat) : Option zz_W := if zin i n = true then some (zsR w k i.toNatClampNeg v) else none
theorem zstR_in {w w' : zz_W} {k n : Nat} {i : Int32} {v : Option Nat} (h : zstR w k n i v = some w') : vp_in i n ∧ zsR w k i.toNatClampNeg v = w' := by
  unfold zstR at h
  by_cases hz : zin i n = true
  · rw [if_pos hz] at h; exact ⟨zin_vp hz, Option.some.inj h⟩
  · rw [if_neg hz] at h; cases h
def zokR (w : zz_W) (k0 sp n : Nat) : Bool := (List.range n).all (fun i => match zgR w k0 (sp + i) with
  | none => true
  | some q => zisT w.2.2.2 q)
theorem zokR_at {w : zz_W} {k0 sp n i q : Nat} (h : zokR w k0 sp n = true) (hi : i < n) (hq : zgR w k0 (sp + i) = some q) : zisT w.2.2.2 q = true := by
  have h1 := List.all_eq_true.mp h i (List.mem_range.mpr hi)
  simp only [hq] at h1
  exact h1
def zcpR (w : zz_W) (k0 n0 : Nat) (sp : Int32) (k1 n1 : Nat) (dp n : Int32) : Option zz_W := if (¬ sp < 0 ∧ ¬ dp < 0 ∧ ¬ n < 0 ∧ sp.toNatClampNeg + n.toNatClampNeg ≤ n0 ∧ dp.toNatClampNeg + n.toNatClampNeg ≤ n1) ∧ zokR w k0 sp.toNatClampNeg n.toNatClampNeg = true then some (zcR w k0 sp.toNatClampNeg k1 dp.toNatClampNeg n.toNatClampNeg) else none
theorem zcpR_in {w w' : zz_W} {k0 n0 k1 n1 : Nat} {sp dp n : Int32} (h : zcpR w k0 n0 sp k1 n1 dp n = some w') : ((¬ sp < 0 ∧ ¬ dp < 0 ∧ ¬ n < 0 ∧ sp.toNatClampNeg + n.toNatClampNeg ≤ n0 ∧ dp.toNatClampNeg + n.toNatClampNeg ≤ n1) ∧ zokR w k0 sp.toNatClampNeg n.toNatClampNeg = true) ∧ zcR w k0 sp.toNatClampNeg k1 dp.toNatClampNeg n.toNatClampNeg = w' := by
  unfold zcpR at h
  by_cases hz : (¬ sp < 0 ∧ ¬ dp < 0 ∧ ¬ n < 0 ∧ sp.toNatClampNeg + n.toNatClampNeg ≤ n0 ∧ dp.toNatClampNeg + n.toNatClampNeg ≤ n1) ∧ zokR w k0 sp.toNatClampNeg n.toNatClampNeg = true
  · rw [if_pos hz] at h; exact ⟨hz, Option.some.inj h⟩
  · rw [if_neg hz] at h; cases h
abbrev zMs (l : Launch) (y : MethodName) (b : ByteArray) (nL : Nat) (ret : Option FieldType) (rm : Room) (D : va_G) (tc : Nat → ClassId) (lo : Nat) (ad : Nat → Nat) (sh : zz_G → Nat → zz_S) (nn : zz_G → Nat) (fr : va_W) (zq : zz_Q) (av : List Value) (w : zz_W) (r : Nat) (w' : zz_W) : Prop :=
  Met l y (zw_of y b nL ret) rm (va_Pc av (zPre D tc lo ad sh nn fr zq w)) (va_Qr (fun u => u = w') (fun u a t => a = zq.1 r ∧ zH D tc lo ad sh nn fr u t.heap) (fun a => lo ≤ a)) rm.cells rm.slots (fun a => lo ≤ a)
abbrev zZs (D : va_G) (tc : Nat → ClassId) (lo : Nat) (ad : Nat → Nat) (sh : zz_G → Nat → zz_S) (nn : zz_G → Nat) (fr : va_W) (zq : zz_Q) (below : List Frame) (args : Array Value) (s : State) (r : Nat) (w' : zz_W) : State → Prop := MQ below (va_Qr (fun u => u = w') (fun u a t => a = zq.1 r ∧ zH D tc lo ad sh nn fr u t.heap) (fun a => lo ≤ a)) args s 0 0 (fun a => lo ≤ a)
section ZY
variable {p : Program} {l : Launch} {e : Env} {R : Room} {s : State} {m : MethodId} {args : Array Value} {below : List Frame} {meth : Method} {c : Code} {H : Heap} {locs : List Loc} {cells slots : Nat} {Q : State → Prop}
variable {cc : ByteArray} {pc nL : Nat} {ls : Array Slot} {rest st0 : List Value} {q0 : Cond} {own : String}
variable {D : va_G} {tc : Nat → ClassId} {lo : Nat} {ad : Nat → Nat} {sh : zz_G → Nat → zz_S} {nn : zz_G → Nat} {fr : va_W} {w w' : zz_W} {zq : zz_Q}
variable {y : MethodName} {b : ByteArray} {maxL mc ms n index i : Nat} {ret : Option FieldType} {rm : Room} {Qc : Array Value → State → Outcome → State → Prop} {free : Addr → Prop} {As : List Value} {k : Nat}
theorem zr_ldcS (S : CallFix p m c cc nL s args (q0 :: zw_tb) "BehindWall$Tape") (hX : zX lo D tc zq s) (hi : i < 6) (hdg : decode cc pc = .ok (.ldc (zsx i).1, 2))
    (kk : W p l e R s m args below meth c H locs cells slots Q (F0 m (pc + 2) ls (.ref (zq.1 i) :: rest))) : W p l e R s m args below meth c H locs cells slots Q (F0 m pc ls rest) :=
  va_ldcS S.1 S.2.1 S.2.2.2.1 (hX.2.2.2.2.2.2.2.2.2.1 i hi) hdg kk
theorem zr_strV (S : CallFix p m c cc nL s args (q0 :: zw_tb) own) (hX : zX lo D tc zq s) (hE : zE D tc lo ad sh nn fr w s.heap H locs) (hi : i < 6) (hl : Cond.fieldLink own index "java/lang/String" "value" "[B" ∈ zw_tb) (hdg : decode cc pc = .ok (.getfield index, 3))
    (kk : W p l e R s m args below meth c H locs cells slots Q (F0 m (pc + 3) ls (.ref (zq.2.1 i) :: rest))) : W p l e R s m args below meth c H locs cells slots Q (F0 m pc ls (.ref (zq.1 i) :: rest)) :=
  vk_getf S.1 S.2.1 (hX.2.2.2.2.2.2.2.2.1.1 i hi).2.2.1 hE.2 S.2.2.2.1 (S.2.2.2.2 _ (List.mem_cons_of_mem _ hl)) (fun _ h => h) hdg kk
theorem zr_strC (S : CallFix p m c cc nL s args (q0 :: zw_tb) own) (hX : zX lo D tc zq s) (hE : zE D tc lo ad sh nn fr w s.heap H locs) (hi : i < 6) (hl : Cond.fieldLink own index "java/lang/String" "coder" "B" ∈ zw_tb) (hdg : decode cc pc = .ok (.getfield index, 3))
    (kk : W p l e R s m args below meth c H locs cells slots Q (F0 m (pc + 3) ls (.int 0 :: rest))) : W p l e R s m args below meth c H locs cells slots Q (F0 m pc ls (.ref (zq.1 i) :: rest)) :=
  vk_getf S.1 S.2.1 (hX.2.2.2.2.2.2.2.2.1.1 i hi).2.1 hE.2 S.2.2.2.1 (S.2.2.2.2 _ (List.mem_cons_of_mem _ hl)) (fun _ h => h) hdg kk
theorem zr_sCOMP (S : CallFix p m c cc nL s args (q0 :: zw_tb) own) (hX : zX lo D tc zq s) (hE : zE D tc lo ad sh nn fr w s.heap H locs) (hl : Cond.fieldLink own index "java/lang/String" "COMPACT_STRINGS" "Z" ∈ zw_tb) (hdg : decode cc pc = .ok (.getstatic index, 3))
    (kk : W p l e R s m args below meth c H locs cells slots Q (F0 m (pc + 3) ls (.int 1 :: rest))) : W p l e R s m args below meth c H locs cells slots Q (F0 m pc ls rest) :=
  va_gets S.1 S.2.1 hX.2.2.2.2.2.2.2.1 hE.2 S.2.2.2.1 (S.2.2.2.2 _ (List.mem_cons_of_mem _ hl)) (fun _ h => h) hdg kk
theorem zr_sFORM (S : CallFix p m c cc nL s args (q0 :: zw_tb) own) (hX : zX lo D tc zq s) (hE : zE D tc lo ad sh nn fr w s.heap H locs) (hl : Cond.fieldLink own index "jdk/internal/util/Preconditions" "SIOOBE_FORMATTER" "Ljava/util/function/BiFunction;" ∈ zw_tb) (hdg : decode cc pc = .ok (.getstatic index, 3))
    (kk : ∀ o : Option Nat, W p l e R s m args below meth c H locs cells slots Q (F0 m (pc + 3) ls (va_rf o :: rest))) : W p l e R s m args below meth c H locs cells slots Q (F0 m pc ls rest) := by
  rcases hX.2.2.2.2.2.2.2.2.2.2 with h | ⟨t, h⟩
  · exact va_gets S.1 S.2.1 h hE.2 S.2.2.2.1 (S.2.2.2.2 _ (List.mem_cons_of_mem _ hl)) (fun _ h => h) hdg (kk none)
  · exact va_gets S.1 S.2.1 h hE.2 S.2.2.2.1 (S.2.2.2.2 _ (List.mem_cons_of_mem _ hl)) (fun _ h => h) hdg (kk (some t))
theorem zr_strL (S : CallFix p m c cc nL s args (q0 :: zw_tb) own) (hX : zX lo D tc zq s) (hE : zE D tc lo ad sh nn fr w s.heap H locs) (hi : i < 6) (hdg : decode cc pc = .ok (.arraylength, 1))
    (kk : W p l e R s m args below meth c H locs cells slots Q (F0 m (pc + 1) ls (.int (Int32.ofNat (zlen.getD i 0)) :: rest))) : W p l e R s m args below meth c H locs cells slots Q (F0 m pc ls (.ref (zq.2.1 i) :: rest)) :=
  va_tlen S.1 S.2.1 (hX.2.2.2.2.2.2.2.2.1.1 i hi).2.2.2 hE.2 rfl hdg kk
theorem zr_strB (S : CallFix p m c cc nL s args (q0 :: zw_tb) own) (hX : zX lo D tc zq s) (hE : zE D tc lo ad sh nn fr w s.heap H locs) (hi : i < 6) (hdg : decode cc pc = .ok (.baload, 1)) {j v : Int32} (hv : zldB i j = some v)
    (kk : W p l e R s m args below meth c H locs cells slots Q (F0 m (pc + 1) ls (.int v :: rest))) : W p l e R s m args below meth c H locs cells slots Q (F0 m pc ls (.int j :: .ref (zq.2.1 i) :: rest)) := by
  obtain ⟨h1, rfl⟩ := zldB_in hv
  exact va_tb S.1 S.2.1 (hX.2.2.2.2.2.2.2.2.1.1 i hi).2.2.2 hE.2 h1 rfl hdg kk
theorem zr_runVS (S : CallFix p m c cc nL s args (q0 :: zw_tb) own) (hX : zX lo D tc zq s) (hE : zE D tc lo ad sh nn fr w s.heap H locs) (hM : Met l y (zw_of y b maxL ret) rm (va_Pc (.ref (zq.1 i) :: As) (zPre D tc lo ad sh nn fr zq w)) Qc mc ms free) (hw : zMw y b maxL ret 1 n) (hl : Cond.methodLink own index y ∈ zw_tb) (hyc : y.cls = "java/lang/String") (hi : i < 6) (hrm : rm.cells = mc ∧ rm.slots = ms) (hR : rm.frames + 1 ≤ R.frames ∧ 8 + (maxL + 11) + rm.locals ≤ R.locals) (hn : As.length = n) (hls : ls.size = nL) (hst : st0 = As.reverse ++ .ref (zq.1 i) :: rest) (hrest : (rest.map fun v => v.category).sum ≤ 8) (hdg : decode cc pc = .ok (.invokevirtual index, 3)) (hf : cells + mc ≤ R.cells ∧ slots + ms ≤ R.slots) : va_Run p l e R s m args below meth c H locs cells slots mc ms (F0 m pc ls st0) rest (Qc (Value.ref (zq.1 i) :: As).toArray) free := by
  have hp := zr_pre hX hE (.ref (zq.1 i) :: As)
  have hs := hw.2.2.2
  rw [if_neg (by decide)] at hs
  refine va_runV (n := n) (C := "java/lang/String") S hM ⟨callB_of n S.2.2.2.2 (zw_good hw.1) rfl hrm.1 hrm.2 (S.2.2.2.2 _ (List.mem_cons_of_mem _ hw.2.1)) (S.2.2.2.2 _ (List.mem_cons_of_mem _ hl)) hw.2.2.1 hR, S.2.2.2.2 _ (List.mem_cons_of_mem _ hs.1), ?_⟩ ⟨hp.1, vk_recv hX.2.2.2.2.2.2.2.2.1 hi hE.2, hp.2⟩ rfl hn hls hst (lv_room (rest := st0) hrest) hdg hf
  rw [← hyc]
  exact S.2.2.2.2 _ (List.mem_cons_of_mem _ hs.2)
theorem zr_s {a : Array Value} {r : Nat} (hr : va_Run p l e R s m args below meth c H locs cells slots mc ms (F0 m pc ls st0) rest (va_Qr (fun u => u = w') (fun u a t => a = zq.1 r ∧ zH D tc lo ad sh nn fr u t.heap) (fun a => lo ≤ a) a) (fun a => lo ≤ a)) (hE : zE D tc lo ad sh nn fr w s.heap H locs)
    (kk : ∀ (H1 : Heap) (locs1 : List Loc), zE D tc lo ad sh nn fr w' s.heap H1 locs1 → W p l e R s m args below meth c H1 locs1 (cells + mc) (slots + ms) Q (F0 m (pc + 3) ls (.ref (zq.1 r) :: rest))) : W p l e R s m args below meth c H locs cells slots Q (F0 m pc ls st0) :=
  va_callr hr hE.2 (fun _ _ h => h) (fun _ h => h) (fun u x t H1 locs1 ht _ hp hB _ _ hS => by subst hp; obtain ⟨rfl, hB⟩ := hB; exact kk H1 locs1 ⟨by rw [← ht]; exact hB, hS⟩)
theorem zr_sret {rt : String} (S : CallFix p m c cc nL s args (q0 :: zw_tb) own) (hE : zE D tc lo ad sh nn fr w s.heap H locs) (hr : meth.sig.returnType = some (.object rt)) (hlocks : meth.locks = false) {v r : Nat} (h : some (v, w) = some (r, w')) (hdg : decode cc pc = .ok (.areturn, 1)) :
    W p l e R s m args below meth c H locs cells slots (MQ below (va_Qr (fun u => u = w') (fun u a t => a = zq.1 r ∧ zH D tc lo ad sh nn fr u t.heap) (fun a => lo ≤ a)) args s cells slots (fun a => lo ≤ a)) (F0 m pc ls [.ref (zq.1 v)]) := by
  cases h
  exact W.aret S.1 S.2.1 hr (Or.inl ⟨_, rfl⟩) (Or.inr ⟨_, rfl⟩) (fun t ht hW => ⟨⟨w, zq.1 v, rfl, rfl, rfl, by rw [ht]; exact hE.1⟩, hE.2.F ht⟩) hE.2.2.2 hdg hlocks
theorem zgR_row {w : zz_W} {k i : Nat} {v : Option Nat} : zgR (zsR w k i v) k = va_up (zgR w k) i v := by
  funext j
  by_cases h : j = i
  · subst h; simp [zgR, zsR, va_up]
  · simp [zgR, zsR, va_up, h]
theorem zr_rast {q : Nat} (S : CallFix p m c cc nL s args (q0 :: zw_tb) own) (hK : va_K D vwCl (ztys tc) s) (hE : zE D tc lo ad sh nn fr w s.heap H locs) (ha : zAt sh nn w k (.inl (6, n))) {fds : List Nat} (hq : zAt sh nn w q (.inr (4, fds))) (hdg : decode cc pc = .ok (.aastore, 1)) {j : Int32} (hv : zstR w k n j (some q) = some w')
    (kk : ∀ (H1 : Heap) (locs1 : List Loc), zE D tc lo ad sh nn fr w' s.heap H1 locs1 → W p l e R s m args below meth c H1 locs1 cells slots Q (F0 m (pc + 1) ls rest)) : W p l e R s m args below meth c H locs cells slots Q (F0 m pc ls (.ref (ad q) :: .int j :: .ref (ad k) :: rest)) := by
  obtain ⟨h1, rfl⟩ := zstR_in hv
  refine va_astq (r := (RX5, TX5, 4)) (f := fun i => (zgR w k i).map ad) S.1 S.2.1 hK hE.1.1 hE.1.2 hE.2 k 6 q 4 (ha.get ad tc fr) rfl (hq.get ad tc fr) rfl h1 hdg (fun H1 locs1 hP hD hS => kk H1 locs1 ?_)
  refine zE_set (w' := zsR w k j.toNatClampNeg (some q)) ha (show (Sum.inl (tc 6, n, Sum.inr (Sum.inr (Sum.inr (Sum.inr (fun i => (zgR (zsR w k j.toNatClampNeg (some q)) k i).map ad))))) : va_E) = _ from ?_) rfl (fun _ _ _ => rfl) (fun _ _ _ => rfl) zsR_oR hP hD hS
  have e : (fun i => (zgR (zsR w k j.toNatClampNeg (some q)) k i).map ad) = va_up (fun i => (zgR w k i).map ad) j.toNatClampNeg (some (ad q)) := by
    funext i
    rw [zgR_row]
    by_cases h : i = j.toNatClampNeg
    · simp [va_up, h]
    · simp [va_up, h]
  rw [e]
theorem zr_rastN (S : CallFix p m c cc nL s args (q0 :: zw_tb) own) (hK : va_K D vwCl (ztys tc) s) (hE : zE D tc lo ad sh nn fr w s.heap H locs) (ha : zAt sh nn w k (.inl (6, n))) (hdg : decode cc pc = .ok (.aastore, 1)) {j : Int32} (hv : zstR w k n j none = some w')
    (kk : ∀ (H1 : Heap) (locs1 : List Loc), zE D tc lo ad sh nn fr w' s.heap H1 locs1 → W p l e R s m args below meth c H1 locs1 cells slots Q (F0 m (pc + 1) ls rest)) : W p l e R s m args below meth c H locs cells slots Q (F0 m pc ls (.null :: .int j :: .ref (ad k) :: rest)) := by
  obtain ⟨h1, rfl⟩ := zstR_in hv
  refine va_astqN (C := RX5) (f := fun i => (zgR w k i).map ad) S.1 S.2.1 hK hE.1.1 hE.1.2 hE.2 k 6 (ha.get ad tc fr) rfl h1 hdg (fun H1 locs1 hP hD hS => kk H1 locs1 ?_)
  refine zE_set (w' := zsR w k j.toNatClampNeg none) ha (show (Sum.inl (tc 6, n, Sum.inr (Sum.inr (Sum.inr (Sum.inr (fun i => (zgR (zsR w k j.toNatClampNeg none) k i).map ad))))) : va_E) = _ from ?_) rfl (fun _ _ _ => rfl) (fun _ _ _ => rfl) zsR_oR hP hD hS
  have e : (fun i => (zgR (zsR w k j.toNatClampNeg none) k i).map ad) = va_up (fun i => (zgR w k i).map ad) j.toNatClampNeg none := by
    funext i
    rw [zgR_row]
    by_cases h : i = j.toNatClampNeg
    · simp [va_up, h]
    · simp [va_up, h]
  rw [e]
theorem zr_cpR (S : CallFix p m c cc nL s args (q0 :: zw_tb) own) (hK : va_K D vwCl (ztys tc) s) (hE : zE D tc lo ad zshC znnC fr w s.heap H locs) (hm : zCpy) (hl : Cond.methodLink own index arraycopyName ∈ zw_tb) (hls : ls.size = nL) {k0 n0 k1 n1 : Nat} (ha0 : zAt zshC znnC w k0 (.inl (6, n0))) (ha1 : zAt zshC znnC w k1 (.inl (6, n1))) (hR : 1 ≤ R.frames ∧ (rest.map fun v => v.category).sum + (nativeFrameWords "java/lang/System" "arraycopy" 5 + 11) ≤ R.locals) (hdg : decode cc pc = .ok (.invokestatic index, 3)) {sp dp n : Int32} (hv : zcpR w k0 n0 sp k1 n1 dp n = some w')
    (kk : ∀ (H1 : Heap) (locs1 : List Loc), zE D tc lo ad zshC znnC fr w' s.heap H1 locs1 → W p l e R s m args below meth c H1 locs1 cells slots Q (F0 m (pc + 3) ls rest)) : W p l e R s m args below meth c H locs cells slots Q (F0 m pc ls (.int n :: .int dp :: .ref (ad k1) :: .int sp :: .ref (ad k0) :: rest)) := by
  obtain ⟨⟨⟨h1, h2, h3, h4, h5⟩, hok⟩, rfl⟩ := zcpR_in hv
  refine va_copyq (C := RX5) (E0 := RX5) (E1 := RX5) (f := fun i => (zgR w k0 i).map ad) (g := fun i => (zgR w k1 i).map ad) S.1 S.2.1 (S.2.2.1.trans hls.symm) S.2.2.2.1 (S.2.2.2.2 _ (List.mem_cons_of_mem _ hl)) (S.2.2.2.2 _ (List.mem_cons_of_mem _ hm.1)) (S.2.2.2.2 _ (List.mem_cons_of_mem _ hm.2.1)) (S.2.2.2.2 _ (List.mem_cons_of_mem _ hm.2.2)) hK hE.1.1 hE.1.2 hE.2 k0 k1 6 6 (ha0.get ad tc fr) (ha1.get ad tc fr) rfl rfl h1 h2 h3 h4 h5 (fun i hi y hy => ?_) (fun comp c0 g1 g2 => ?_) hR.1 hR.2 hdg (fun H1 locs1 hP hD hS => kk H1 locs1 ?_)
  · cases hz : zgR w k0 (sp.toNatClampNeg + i) with
    | none => rw [hz] at hy; cases hy
    | some q =>
      rw [hz] at hy
      cases hy
      exact va_recv hK hE.1.1 (q0 := q) (ci := 4) (q := (RX5, TX5, 4)) rfl ((zcT0 (zokR_at hok hi hz)).get ad tc fr)
  · have hcls := (hK.1 4 (RX5, TX5, 4) rfl).2
    have e1 : comp = D.1 4 := Option.some.inj (g1.symm.trans hcls.1)
    have e2 : c0 = D.1 4 := Option.some.inj (g2.symm.trans hcls.1)
    rw [e1, e2]
    exact va_assign hcls
  refine zE_set (w' := zcR w k0 sp.toNatClampNeg k1 dp.toNatClampNeg n.toNatClampNeg) ha1 (show (Sum.inl (tc 6, n1, Sum.inr (Sum.inr (Sum.inr (Sum.inr (fun i => (zgR (zcR w k0 sp.toNatClampNeg k1 dp.toNatClampNeg n.toNatClampNeg) k1 i).map ad))))) : va_E) = _ from ?_) rfl (fun _ _ _ => rfl) (fun _ _ _ => rfl) (fun j i hj => ?_) hP hD hS
  · have e : (fun i => (zgR (zcR w k0 sp.toNatClampNeg k1 dp.toNatClampNeg n.toNatClampNeg) k1 i).map ad) = va_cpy (fun i => (zgR w k0 i).map ad) (fun i => (zgR w k1 i).map ad) sp.toNatClampNeg dp.toNatClampNeg n.toNatClampNeg := by
      funext j
      by_cases hj : dp.toNatClampNeg ≤ j ∧ j < dp.toNatClampNeg + n.toNatClampNeg
      · simp [zgR, zcR, va_cpy, hj]
      · simp only [zgR, zcR, va_cpy]
        rw [if_neg hj, if_neg (fun q => hj q.2)]
    rw [e]
  · simp [zgR, zcR, hj]
end ZY
