/-! ===== the shapes of the two sides ===== -/
def zsh0 (k : Nat) : zz_S :=
  if k = 0 then .inr (6, [1 + 2, 11 + 2, 21 + 2, 31 + 2, 36 + 2, 39 + 2, 40 + 2, 41 + 2, 0, 0])
  else if k < 31 then (match (k - 1) % 10 with
    | 0 => .inr (5, [k + 1 + 2, k + 2 + 2, k + 3 + 2, k + 4 + 2, k + 5 + 2, k + 6 + 2, k + 7 + 2, k + 8 + 2, k + 9 + 2, 0, 0, 0, 0, 0, 0, 0])
    | 6 => .inl (1, 10)
    | 7 => .inl (0, 7)
    | 8 => .inl (6, 14)
    | 9 => .inl (0, 3)
    | _ => .inl (0, 10))
  else if k = 31 then .inr (0, [0, 0, 0, 0, 32 + 2, 33 + 2, 34 + 2, 35 + 2, 1, 0])
  else if k = 32 then .inl (0, 24)
  else if k = 33 then .inl (1, 24)
  else if k = 34 then .inl (1, 10)
  else if k = 35 then .inl (1, 10)
  else if k = 36 then .inr (3, [0, 37 + 2, 38 + 2, 0, 0, 0, 0, 0, 0, 0])
  else if k = 37 then .inl (0, 96)
  else if k = 38 then .inl (0, 96)
  else if k = 39 then .inl (4, 4)
  else if k = 40 then .inl (5, 5)
  else if k = 41 then .inl (0, 60)
  else if k < 50 then (if k % 2 = 0 then .inr (1, [k + 1 + 2, 0, 0]) else .inl (0, 24))
  else (match (k - 50) % 3 with
    | 0 => .inr (2, [k + 1 + 2, 0, 0, 0, 0])
    | 1 => .inr (1, [k + 1 + 2, 0, 0])
    | _ => .inl (0, 24))
def zshC (x : zz_G) (k : Nat) : zz_S :=
  if k < 65 then zsh0 k
  else (match (k - 65) % 3 with
    | 0 => .inr (4, [0, 0, k + 1 + 2, k + 2 + 2])
    | 1 => .inl (0, x.2 (k - 1))
    | _ => .inl (0, x.2 (k - 2)))
def znnC (x : zz_G) : Nat := 65 + 3 * x.1
def zshM0 (k : Nat) : zz_S := match k with
  | 0 => .inr (7, [1 + 2, 2 + 2, 3 + 2, 0, 4 + 2, 5 + 2, 6 + 2, 7 + 2, 0, 0, 0, 0, 0, 0, 0, 8 + 2, 9 + 2, 10 + 2, 0, 0, 11 + 2, 0, 12 + 2, 13 + 2, 14 + 2, 15 + 2, 16 + 2, 17 + 2, 18 + 2, 19 + 2, 20 + 2, 21 + 2, 22 + 2, 23 + 2, 0])
  | 1 => .inl (0, 1436)
  | 2 => .inl (0, 1436)
  | 3 => .inl (0, 1436)
  | 4 => .inl (0, 10)
  | 5 => .inl (0, 10)
  | 6 => .inl (0, 64)
  | 7 => .inl (0, 96)
  | 8 => .inl (3, 11)
  | 9 => .inl (0, 4)
  | 10 => .inl (0, 96)
  | 11 => .inl (0, 96)
  | 12 => .inl (2, 10)
  | 13 => .inl (0, 96)
  | 14 => .inl (0, 4)
  | 15 => .inl (0, 4)
  | 16 => .inl (0, 4)
  | 17 => .inl (0, 96)
  | 18 => .inl (0, 5)
  | 19 => .inl (0, 5)
  | 20 => .inl (0, 5)
  | 21 => .inl (0, 120)
  | 22 => .inl (0, 24)
  | _ => .inl (0, 60)
def zshM (_ : zz_G) (k : Nat) : zz_S := zshM0 k
def znnM (_ : zz_G) : Nat := 24
def zisW (b : Nat) : Bool := decide (b = 1 ∨ b = 11 ∨ b = 21)
def zisS (k : Nat) : Bool := decide (k < 65 ∧ zsh0 k = .inr (1, [k + 1 + 2, 0, 0]))
def zisL (k : Nat) : Bool := decide (k = 50 ∨ k = 53 ∨ k = 56 ∨ k = 59 ∨ k = 62)
def zisT (x : zz_G) (q : Nat) : Bool := decide (65 ≤ q ∧ q < 65 + 3 * x.1 ∧ (q - 65) % 3 = 0)
def zisX (k : Nat) (x : zz_S) : Bool := decide (k < 65 ∧ zsh0 k = x)
def zisM (k : Nat) (x : zz_S) : Bool := decide (k < 24 ∧ zshM0 k = x)
theorem zc_lit {k : Nat} {x : zz_S} (w : zz_W) (hk : k < 65) (h : zsh0 k = x) : zAt zshC znnC w k x := ⟨by unfold znnC; omega, by unfold zshC; rw [if_pos hk]; exact h⟩
theorem zm_lit {k : Nat} {x : zz_S} (w : zz_W) (hk : k < 24) (h : zshM0 k = x) : zAt zshM znnM w k x := ⟨hk, h⟩
theorem zc_X {k : Nat} {x : zz_S} (h : zisX k x = true) (w : zz_W) : zAt zshC znnC w k x := zc_lit w (of_decide_eq_true h).1 (of_decide_eq_true h).2
theorem zc_M {k : Nat} {x : zz_S} (h : zisM k x = true) (w : zz_W) : zAt zshM znnM w k x := zm_lit w (of_decide_eq_true h).1 (of_decide_eq_true h).2
theorem zcW {b : Nat} (h : zisW b = true) : b = 1 ∨ b = 11 ∨ b = 21 := of_decide_eq_true h
theorem zcW0 {b : Nat} (h : zisW b = true) (w : zz_W) : zAt zshC znnC w b (.inr (5, [b + 1 + 2, b + 2 + 2, b + 3 + 2, b + 4 + 2, b + 5 + 2, b + 6 + 2, b + 7 + 2, b + 8 + 2, b + 9 + 2, 0, 0, 0, 0, 0, 0, 0])) := by
  rcases zcW h with rfl | rfl | rfl <;> exact zc_lit w (by decide) rfl
theorem zcW1 {b : Nat} (h : zisW b = true) (w : zz_W) : zAt zshC znnC w (b + 1) (.inl (0, 10)) := by
  rcases zcW h with rfl | rfl | rfl <;> exact zc_lit w (by decide) rfl
theorem zcW2 {b : Nat} (h : zisW b = true) (w : zz_W) : zAt zshC znnC w (b + 2) (.inl (0, 10)) := by
  rcases zcW h with rfl | rfl | rfl <;> exact zc_lit w (by decide) rfl
theorem zcW3 {b : Nat} (h : zisW b = true) (w : zz_W) : zAt zshC znnC w (b + 3) (.inl (0, 10)) := by
  rcases zcW h with rfl | rfl | rfl <;> exact zc_lit w (by decide) rfl
theorem zcW4 {b : Nat} (h : zisW b = true) (w : zz_W) : zAt zshC znnC w (b + 4) (.inl (0, 10)) := by
  rcases zcW h with rfl | rfl | rfl <;> exact zc_lit w (by decide) rfl
theorem zcW5 {b : Nat} (h : zisW b = true) (w : zz_W) : zAt zshC znnC w (b + 5) (.inl (0, 10)) := by
  rcases zcW h with rfl | rfl | rfl <;> exact zc_lit w (by decide) rfl
theorem zcW6 {b : Nat} (h : zisW b = true) (w : zz_W) : zAt zshC znnC w (b + 6) (.inl (1, 10)) := by
  rcases zcW h with rfl | rfl | rfl <;> exact zc_lit w (by decide) rfl
theorem zcW7 {b : Nat} (h : zisW b = true) (w : zz_W) : zAt zshC znnC w (b + 7) (.inl (0, 7)) := by
  rcases zcW h with rfl | rfl | rfl <;> exact zc_lit w (by decide) rfl
theorem zcW8 {b : Nat} (h : zisW b = true) (w : zz_W) : zAt zshC znnC w (b + 8) (.inl (6, 14)) := by
  rcases zcW h with rfl | rfl | rfl <;> exact zc_lit w (by decide) rfl
theorem zcW9 {b : Nat} (h : zisW b = true) (w : zz_W) : zAt zshC znnC w (b + 9) (.inl (0, 3)) := by
  rcases zcW h with rfl | rfl | rfl <;> exact zc_lit w (by decide) rfl
theorem zcS0 {k : Nat} (h : zisS k = true) (w : zz_W) : zAt zshC znnC w k (.inr (1, [k + 1 + 2, 0, 0])) := zc_lit w (of_decide_eq_true h).1 (of_decide_eq_true h).2
theorem zcS_dec : ∀ k, k < 65 → zisS k = true → k + 1 < 65 ∧ zsh0 (k + 1) = .inl (0, 24) := by decide +kernel
theorem zcS1 {k : Nat} (h : zisS k = true) (w : zz_W) : zAt zshC znnC w (k + 1) (.inl (0, 24)) := zc_lit w (zcS_dec k (of_decide_eq_true h).1 h).1 (zcS_dec k (of_decide_eq_true h).1 h).2
theorem zcLd {k : Nat} (h : zisL k = true) : k = 50 ∨ k = 53 ∨ k = 56 ∨ k = 59 ∨ k = 62 := of_decide_eq_true h
theorem zcL0 {k : Nat} (h : zisL k = true) (w : zz_W) : zAt zshC znnC w k (.inr (2, [k + 1 + 2, 0, 0, 0, 0])) := by
  rcases zcLd h with rfl | rfl | rfl | rfl | rfl <;> exact zc_lit w (by decide) rfl
theorem zcL1 {k : Nat} (h : zisL k = true) : zisS (k + 1) = true := by
  rcases zcLd h with rfl | rfl | rfl | rfl | rfl <;> decide
theorem zq4_S {i : Int32} {v : Nat} (h : zldQ 4 i zq4 = some v) : zisS v = true := by
  obtain ⟨h1, rfl⟩ := zldQ_in h
  have h2 : i.toNatClampNeg < 4 := Nat.not_le.mp fun q => h1 (Or.inr q)
  rcases (show i.toNatClampNeg = 0 ∨ i.toNatClampNeg = 1 ∨ i.toNatClampNeg = 2 ∨ i.toNatClampNeg = 3 by omega) with e | e | e | e <;> rw [e] <;> decide
theorem zq5_L {i : Int32} {v : Nat} (h : zldQ 5 i zq5 = some v) : zisL v = true := by
  obtain ⟨h1, rfl⟩ := zldQ_in h
  have h2 : i.toNatClampNeg < 5 := Nat.not_le.mp fun q => h1 (Or.inr q)
  rcases (show i.toNatClampNeg = 0 ∨ i.toNatClampNeg = 1 ∨ i.toNatClampNeg = 2 ∨ i.toNatClampNeg = 3 ∨ i.toNatClampNeg = 4 by omega) with e | e | e | e | e <;> rw [e] <;> decide
theorem zcT0 {q : Nat} {w : zz_W} (h : zisT w.2.2.2 q = true) : zAt zshC znnC w q (.inr (4, [0, 0, q + 1 + 2, q + 2 + 2])) := by
  obtain ⟨h1, h2, h3⟩ := of_decide_eq_true h
  refine ⟨by unfold znnC; omega, ?_⟩
  unfold zshC
  rw [if_neg (by omega), h3]
  rfl
theorem zcT1 {q : Nat} {w : zz_W} (h : zisT w.2.2.2 q = true) : zAt zshC znnC w (q + 1) (.inl (0, w.2.2.2.2 q)) := by
  obtain ⟨h1, h2, h3⟩ := of_decide_eq_true h
  refine ⟨by unfold znnC; omega, ?_⟩
  unfold zshC
  rw [if_neg (by omega), show (q + 1 - 65) % 3 = 1 by omega]
  rfl
theorem zcT2 {q : Nat} {w : zz_W} (h : zisT w.2.2.2 q = true) : zAt zshC znnC w (q + 2) (.inl (0, w.2.2.2.2 q)) := by
  obtain ⟨h1, h2, h3⟩ := of_decide_eq_true h
  refine ⟨by unfold znnC; omega, ?_⟩
  unfold zshC
  rw [if_neg (by omega), show (q + 2 - 65) % 3 = 2 by omega]
  rfl
/-! ===== a method's entry, and its end ===== -/
abbrev zZi (D : va_G) (tc : Nat → ClassId) (lo : Nat) (ad : Nat → Nat) (sh : zz_G → Nat → zz_S) (nn : zz_G → Nat) (fr : va_W) (below : List Frame) (args : Array Value) (s : State) (r : Int32) (w' : zz_W) : State → Prop := MQ below (va_Qi (fun x u => x = r ∧ u = w') (fun u t => zH D tc lo ad sh nn fr u t.heap) (fun a => lo ≤ a)) args s 0 0 (fun a => lo ≤ a)
abbrev zZl (D : va_G) (tc : Nat → ClassId) (lo : Nat) (ad : Nat → Nat) (sh : zz_G → Nat → zz_S) (nn : zz_G → Nat) (fr : va_W) (below : List Frame) (args : Array Value) (s : State) (r : Int64) (w' : zz_W) : State → Prop := MQ below (va_Ql (fun x u => x = r ∧ u = w') (fun u t => zH D tc lo ad sh nn fr u t.heap) (fun a => lo ≤ a)) args s 0 0 (fun a => lo ≤ a)
abbrev zZv (D : va_G) (tc : Nat → ClassId) (lo : Nat) (ad : Nat → Nat) (sh : zz_G → Nat → zz_S) (nn : zz_G → Nat) (fr : va_W) (below : List Frame) (args : Array Value) (s : State) (w' : zz_W) : State → Prop := MQ below (va_Qv (fun u => u = w') (fun u t => zH D tc lo ad sh nn fr u t.heap) (fun a => lo ≤ a)) args s 0 0 (fun a => lo ≤ a)
theorem zr_entry {l : Launch} {y : MethodName} {b : ByteArray} {nL : Nat} {ret : Option FieldType} {rm : Room} {D : va_G} {tc : Nat → ClassId} {lo : Nat} {ad : Nat → Nat} {sh : zz_G → Nat → zz_S} {nn : zz_G → Nat} {fr : va_W} {zq : zz_Q} {av : List Value} {w : zz_W} {Qc : Array Value → State → Outcome → State → Prop} {mc ms : Nat} {free : Addr → Prop}
    (hy : plainName y.cls = true) (hn : (lg_sl av).length ≤ nL)
    (kk : ∀ (p : Program) (e : Env) (s : State) (m : MethodId) (args : Array Value) (below : List Frame) (meth : Method) (c : Code) (ls : Array Slot), CallFix p m c b nL s args (Cond.code y b nL ret :: zw_tb) y.cls → zX lo D tc zq s → meth.sig.returnType = ret → meth.locks = false → zE D tc lo ad sh nn fr w s.heap s.heap [] → lv_has ls nL (lv_args 0 av) → W p l e rm s m args below meth c s.heap [] 0 0 (MQ below Qc args s mc ms free) (F0 m 0 ls [])) :
    Met l y (zw_of y b nL ret) rm (va_Pc av (zPre D tc lo ad sh nn fr zq w)) Qc mc ms free := by
  refine Met.ofW (cc := b) (maxL := nL) (ret := ret) hy rfl ?_
  intro p e s m args below meth c s₁ B hml hv
  obtain ⟨hav, hlo, hH, hK, hnw, hst⟩ := hv
  have hl := lv_entry av hn
  have ht := atoms_spec (ws := zw_of y b nL ret) B.pre
  have hres := kk p e s m args below meth c ((lg_sl av ++ List.replicate (nL - (lg_sl av).length) Slot.unset).toArray) ⟨B.exec, B.bytes, hml, findClass_of_methodNamed B.named, ht⟩ ⟨hlo, hK, hnw, hst⟩ B.returns B.notSynchronized ⟨hH, va_S.rf⟩ hl
  rw [hav, lg_entry_eq]
  rw [hav] at hres
  exact hres
section ZT
variable {p : Program} {l : Launch} {e : Env} {R : Room} {s : State} {m : MethodId} {args : Array Value} {below : List Frame} {meth : Method} {c : Code} {H : Heap} {locs : List Loc} {cells slots : Nat} {Q : State → Prop} {pc : Nat} {ls : Array Slot} {rest : List Value}
theorem zr_topi {x v : Int32} (hv : some x = some v) (k : W p l e R s m args below meth c H locs cells slots Q (F0 m pc ls (.int v :: rest))) : W p l e R s m args below meth c H locs cells slots Q (F0 m pc ls (.int x :: rest)) := by cases hv; exact k
theorem zr_topl {x v : Int64} (hv : some x = some v) (k : W p l e R s m args below meth c H locs cells slots Q (F0 m pc ls (.long v :: rest))) : W p l e R s m args below meth c H locs cells slots Q (F0 m pc ls (.long x :: rest)) := by cases hv; exact k
theorem zr_idiv {cc : ByteArray} (hexec : p.tables.exec = Jvm.exec) (hb : c.code = cc) {x y v : Int32} (hdg : decode cc pc = .ok (.idiv, 1)) (hv : zdiv x y = some v) (k : W p l e R s m args below meth c H locs cells slots Q (F0 m (pc + 1) ls (.int v :: rest))) : W p l e R s m args below meth c H locs cells slots Q (F0 m pc ls (.int y :: .int x :: rest)) := by
  obtain ⟨h1, rfl⟩ := zdiv_in hv; exact lv_idiv hexec hb hdg h1 k
theorem zr_irem {cc : ByteArray} (hexec : p.tables.exec = Jvm.exec) (hb : c.code = cc) {x y v : Int32} (hdg : decode cc pc = .ok (.irem, 1)) (hv : zrem x y = some v) (k : W p l e R s m args below meth c H locs cells slots Q (F0 m (pc + 1) ls (.int v :: rest))) : W p l e R s m args below meth c H locs cells slots Q (F0 m pc ls (.int y :: .int x :: rest)) := by
  obtain ⟨h1, rfl⟩ := zrem_in hv; exact lv_irem hexec hb hdg h1 k
theorem zr_ldiv {cc : ByteArray} (hexec : p.tables.exec = Jvm.exec) (hb : c.code = cc) {x y v : Int64} (hdg : decode cc pc = .ok (.ldiv, 1)) (hv : zldiv x y = some v) (k : W p l e R s m args below meth c H locs cells slots Q (F0 m (pc + 1) ls (.long v :: rest))) : W p l e R s m args below meth c H locs cells slots Q (F0 m pc ls (.long y :: .long x :: rest)) := by
  obtain ⟨h1, rfl⟩ := zldiv_in hv; exact lv_ldiv hexec hb hdg h1 k
end ZT
def zfuel : Nat := 4000
