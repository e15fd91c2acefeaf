/-! ===== words: one list for all methods ===== -/
def zw_tb : List Cond := lw_tbl.filter goodWord
abbrev zw_of (y : MethodName) (b : ByteArray) (n : Nat) (r : Option FieldType) : List Cond := .code y b n r :: zw_tb
theorem zw_mem {w : Cond} (i : Nat) (h : lw_tbl[i]? = some w) (hg : goodWord w = true) : w ∈ zw_tb := List.mem_filter.mpr ⟨List.mem_of_getElem? h, hg⟩
theorem zw_good {q : Cond} {y : MethodName} {b : ByteArray} {n : Nat} {r : Option FieldType} (h : Cond.code y b n r ∈ zw_tb) : GoodIn (q :: zw_tb) (zw_of y b n r) := by
  have key : ∀ w ∈ zw_tb, w ∈ (q :: zw_tb) ∧ ((w.onTables && w.keeps) = true ∨ ∃ ty, w = .arrayClass ty) := fun w hw => ⟨List.mem_cons_of_mem _ hw, good_of_word (List.mem_filter.mp hw).2⟩
  intro w hw
  rcases List.mem_cons.mp hw with e | hw
  · rw [e]; exact key _ h
  · exact key _ hw
def zn_is (w : Cond) : Bool := match w with
  | .methodLinkNest .. => true
  | _ => false
def zn_tb : List Cond := lw_tbl.filter zn_is
def zn_U (U : State) : Prop := ∀ w ∈ zn_tb, va_Nw w U
theorem zn_warm {s U : State} (hW : s.WarmedH U.vm) (h : zn_U s) : zn_U U := by
  intro w hw
  have h1 := (List.mem_filter.mp hw).2
  cases w <;> first | (simp [zn_is] at h1; done) | exact va_Nw.warmM hW (h _ hw)
theorem zn_same {u U : State} (hv : u.vm = U.vm) (h : zn_U u) : zn_U U := by
  intro w hw
  have h1 := (List.mem_filter.mp hw).2
  cases w <;> first | (simp [zn_is] at h1; done) | exact va_Nw.same rfl hv (h _ hw)
theorem zn_mem {w : Cond} (i : Nat) (h : lw_tbl[i]? = some w) (hg : zn_is w = true) : w ∈ zn_tb := List.mem_filter.mpr ⟨List.mem_of_getElem? h, hg⟩
/-- what the rows know of a class -/
def zCl (ci : Nat) (C : String) (T : u_T) (N : Nat) (ty : Nat → FieldType) : Prop := vwCl[ci]? = some (C, T, N) ∧ (∀ w ∈ u_ws C T N, w ∈ zw_tb) ∧ (∀ k, k < N → parseFieldDescriptor (T k).2.2.1 = some (ty k)) ∧ ∀ a, a < N → ∀ b, b < N → a ≠ b → (T a).2.1 ≠ (T b).2.1
/-- a method's own words, once for all its calls: k 0 static, 1 instance -/
def zMw (y : MethodName) (b : ByteArray) (nL : Nat) (ret : Option FieldType) (k n : Nat) : Prop :=
  Cond.code y b nL ret ∈ zw_tb ∧ Cond.initialized y.cls ∈ zw_tb ∧ (y.cls ≠ "java/lang/invoke/MethodHandle" ∧ y.cls ≠ "java/lang/invoke/VarHandle" ∧ (parseMethodDescriptor y.desc).map (fun d => d.parameters.length) = some n) ∧
  (if k = 0 then Cond.static y ∈ zw_tb else Cond.instanceMethod y ∈ zw_tb ∧ Cond.selects y.cls y y ∈ zw_tb)
def zMath : Prop := (Cond.static Lib.Math.max.name ∈ zw_tb ∧ Cond.code Lib.Math.max.name Lib.Math.max.code 2 (some .int) ∈ zw_tb) ∧ (Cond.static Lib.Math.min.name ∈ zw_tb ∧ Cond.code Lib.Math.min.name Lib.Math.min.code 2 (some .int) ∈ zw_tb) ∧ (Cond.static Lib.MathLoose.min_long.x ∈ zw_tb ∧ Cond.code Lib.MathLoose.min_long.x Lib.MathLoose.min_long.code 4 (some .long) ∈ zw_tb) ∧ Cond.initialized "java/lang/Math" ∈ zw_tb
def zCpy : Prop := Cond.native arraycopyName ∈ zw_tb ∧ Cond.static arraycopyName ∈ zw_tb ∧ Cond.initialized "java/lang/System" ∈ zw_tb
/-! ===== worlds: place, index ↦ number ===== -/
abbrev zz_W : Type := (Nat → Nat → Int32) × (Nat → Nat → Int64) × (Nat → Nat → Option Nat) × (Nat × (Nat → Nat))
abbrev zz_G : Type := Nat × (Nat → Nat)
abbrev zz_S : Type := (Nat × Nat) ⊕ (Nat × List Nat)
def zgI (w : zz_W) (k i : Nat) : Int32 := w.1 k i
def zgL (w : zz_W) (k i : Nat) : Int64 := w.2.1 k i
def zgR (w : zz_W) (k i : Nat) : Option Nat := w.2.2.1 k i
def zsI (w : zz_W) (k i : Nat) (v : Int32) : zz_W := (fun a b => if a = k ∧ b = i then v else w.1 a b, w.2)
def zsL (w : zz_W) (k i : Nat) (v : Int64) : zz_W := (w.1, fun a b => if a = k ∧ b = i then v else w.2.1 a b, w.2.2)
def zsR (w : zz_W) (k i : Nat) (v : Option Nat) : zz_W := (w.1, w.2.1, fun a b => if a = k ∧ b = i then v else w.2.2.1 a b, w.2.2.2)
def zcI (w : zz_W) (k0 sp k dp n : Nat) : zz_W := (fun a b => if a = k ∧ dp ≤ b ∧ b < dp + n then w.1 k0 (sp + (b - dp)) else w.1 a b, w.2)
def zcL (w : zz_W) (k0 sp k dp n : Nat) : zz_W := (w.1, fun a b => if a = k ∧ dp ≤ b ∧ b < dp + n then w.2.1 k0 (sp + (b - dp)) else w.2.1 a b, w.2.2)
def zcR (w : zz_W) (k0 sp k dp n : Nat) : zz_W := (w.1, w.2.1, fun a b => if a = k ∧ dp ≤ b ∧ b < dp + n then w.2.2.1 k0 (sp + (b - dp)) else w.2.2.1 a b, w.2.2.2)
def zty : Nat → FieldType
  | 0 => .int
  | 1 => .long
  | 2 => .boolean
  | 3 => .char
  | 4 => .object "BehindWall$Sheet"
  | 5 => .object "BehindWall$Slot"
  | _ => .object "BehindWall$Text"
abbrev ztys (tc : Nat → ClassId) : List (ClassId × FieldType) := [(tc 0, zty 0), (tc 1, zty 1), (tc 2, zty 2), (tc 3, zty 3), (tc 4, zty 4), (tc 5, zty 5), (tc 6, zty 6)]
def zq4 (i : Nat) : Nat := 42 + 2 * i
def zq5 (i : Nat) : Nat := 50 + 3 * i
def zval (ad : Nat → Nat) (w : zz_W) (k j f : Nat) : Value := match f with
  | 0 => .int (zgI w k j)
  | 1 => .long (zgL w k j)
  | q + 2 => .ref (ad q)
def zfv (ad : Nat → Nat) (w : zz_W) (k : Nat) : Nat → List Nat → List Value
  | _, [] => []
  | j, f :: r => zval ad w k j f :: zfv ad w k (j + 1) r
def zar (ad : Nat → Nat) (w : zz_W) (k t : Nat) : (Nat → Int32) ⊕ (Nat → Int64) ⊕ (Nat → UInt32) ⊕ (Nat → UInt64) ⊕ (Nat → Option Nat) := match t with
  | 0 => .inl (zgI w k)
  | 1 => .inr (.inl (zgL w k))
  | 2 => .inl (zgI w k)
  | 3 => .inl (zgI w k)
  | 4 => .inr (.inr (.inr (.inr (fun i => some (ad (zq4 i))))))
  | 5 => .inr (.inr (.inr (.inr (fun i => some (ad (zq5 i))))))
  | _ => .inr (.inr (.inr (.inr (fun i => (zgR w k i).map ad))))
def zpic (ad : Nat → Nat) (tc : Nat → ClassId) (w : zz_W) (k : Nat) (x : zz_S) : va_E := match x with
  | .inl (t, n) => .inl (tc t, n, zar ad w k t)
  | .inr (ci, fds) => .inr (ci, zfv ad w k 0 fds)
def zws (ad : Nat → Nat) (tc : Nat → ClassId) (sh : zz_G → Nat → zz_S) (nn : zz_G → Nat) (w : zz_W) : va_W := (List.range (nn w.2.2.2)).map (fun k => (ad k, zpic ad tc w k (sh w.2.2.2 k)))
theorem zws_get {ad : Nat → Nat} {tc : Nat → ClassId} {sh : zz_G → Nat → zz_S} {nn : zz_G → Nat} {w : zz_W} {fr : va_W} {k : Nat} (hk : k < nn w.2.2.2) : (zws ad tc sh nn w ++ fr)[k]? = some (ad k, zpic ad tc w k (sh w.2.2.2 k)) := by
  have h1 : k < (zws ad tc sh nn w).length := by simp [zws, hk]
  rw [List.getElem?_append_left h1]
  simp [zws, hk]
theorem zws_set {ad : Nat → Nat} {tc : Nat → ClassId} {sh : zz_G → Nat → zz_S} {nn : zz_G → Nat} {w w' : zz_W} {fr : va_W} {k : Nat} (hk : k < nn w.2.2.2) (hg : w'.2.2.2 = w.2.2.2) (ho : ∀ (j : Nat) (x : zz_S), j ≠ k → zpic ad tc w' j x = zpic ad tc w j x) : (zws ad tc sh nn w ++ fr).set k (ad k, zpic ad tc w' k (sh w.2.2.2 k)) = zws ad tc sh nn w' ++ fr := by
  have h1 : k < (zws ad tc sh nn w).length := by simp [zws, hk]
  rw [List.set_append_left _ _ h1]
  congr 1
  apply List.ext_getElem?
  intro j
  rw [List.getElem?_set]
  by_cases hj : k = j
  · subst hj
    rw [if_pos rfl, if_pos h1]
    simp [zws, hg, hk]
  · rw [if_neg hj]
    by_cases hl : j < nn w.2.2.2
    · simp only [zws, hg, List.getElem?_map, List.getElem?_range hl, Option.map_some]
      rw [ho j _ (fun q => hj q.symm)]
    · have e1 : (List.range (nn w.2.2.2))[j]? = none := by simp [Nat.le_of_not_lt hl]
      simp only [zws, hg, List.getElem?_map, e1, Option.map_none]
theorem zfv_get {ad : Nat → Nat} {w : zz_W} {k : Nat} : ∀ (fds : List Nat) (j0 j : Nat), (zfv ad w k j0 fds)[j]? = (fds[j]?).map (fun f => zval ad w k (j0 + j) f)
  | [], _, _ => rfl
  | f :: r, j0, 0 => rfl
  | f :: r, j0, j + 1 => by
    show (zfv ad w k (j0 + 1) r)[j]? = _
    rw [zfv_get r (j0 + 1) j, show j0 + 1 + j = j0 + (j + 1) by omega]
    rfl
theorem zfv_len {ad : Nat → Nat} {w : zz_W} {k : Nat} : ∀ (fds : List Nat) (j0 : Nat), (zfv ad w k j0 fds).length = fds.length
  | [], _ => rfl
  | _ :: r, j0 => by
    show (zfv ad w k (j0 + 1) r).length + 1 = r.length + 1
    rw [zfv_len r (j0 + 1)]
theorem zval_oth {ad : Nat → Nat} {w w' : zz_W} {k : Nat} {j f : Nat} (hI : zgI w' k j = zgI w k j) (hL : zgL w' k j = zgL w k j) : zval ad w' k j f = zval ad w k j f := by
  match f with
  | 0 => show Value.int _ = _; rw [hI]; rfl
  | 1 => show Value.long _ = _; rw [hL]; rfl
  | q + 2 => rfl
theorem zfv_oth {ad : Nat → Nat} {w w' : zz_W} {k : Nat} (hI : ∀ i, zgI w' k i = zgI w k i) (hL : ∀ i, zgL w' k i = zgL w k i) (fds : List Nat) (j0 : Nat) : zfv ad w' k j0 fds = zfv ad w k j0 fds := by
  apply List.ext_getElem?
  intro i
  rw [zfv_get, zfv_get]
  cases h : fds[i]? with
  | none => rfl
  | some f => exact congrArg some (zval_oth (hI _) (hL _))
theorem zpic_oth {ad : Nat → Nat} {tc : Nat → ClassId} {w w' : zz_W} {k : Nat} (hI : ∀ i, zgI w' k i = zgI w k i) (hL : ∀ i, zgL w' k i = zgL w k i) (hR : ∀ i, zgR w' k i = zgR w k i) (x : zz_S) : zpic ad tc w' k x = zpic ad tc w k x := by
  have eI : zgI w' k = zgI w k := funext hI
  have eL : zgL w' k = zgL w k := funext hL
  have eR : zgR w' k = zgR w k := funext hR
  match x with
  | .inl (t, n) =>
    show (Sum.inl (tc t, n, zar ad w' k t) : va_E) = Sum.inl (tc t, n, zar ad w k t)
    have e : zar ad w' k t = zar ad w k t := by unfold zar; rw [eI, eL, eR]
    rw [e]
  | .inr (ci, fds) =>
    show (Sum.inr (ci, zfv ad w' k 0 fds) : va_E) = Sum.inr (ci, zfv ad w k 0 fds)
    rw [zfv_oth hI hL]
theorem zfv_setI {ad : Nat → Nat} {w : zz_W} {k j : Nat} {v : Int32} {fds : List Nat} (hf : fds[j]? = some 0) : zfv ad (zsI w k j v) k 0 fds = (zfv ad w k 0 fds).set j (.int v) := by
  have hl : j < fds.length := (List.getElem?_eq_some_iff.mp hf).1
  apply List.ext_getElem?
  intro i
  rw [List.getElem?_set, zfv_get, zfv_get, zfv_len]
  by_cases h : j = i
  · subst h
    rw [if_pos rfl, if_pos hl, hf]
    show some (Value.int _) = _
    simp [zgI, zsI]
  · rw [if_neg h]
    cases h2 : fds[i]? with
    | none => rfl
    | some f =>
      refine congrArg some (zval_oth ?_ rfl)
      have h3 : ¬ (0 + i) = j := by omega
      simp [zgI, zsI, h3]
      intro h4; exact absurd h4.symm h
theorem zfv_setL {ad : Nat → Nat} {w : zz_W} {k j : Nat} {v : Int64} {fds : List Nat} (hf : fds[j]? = some 1) : zfv ad (zsL w k j v) k 0 fds = (zfv ad w k 0 fds).set j (.long v) := by
  have hl : j < fds.length := (List.getElem?_eq_some_iff.mp hf).1
  apply List.ext_getElem?
  intro i
  rw [List.getElem?_set, zfv_get, zfv_get, zfv_len]
  by_cases h : j = i
  · subst h
    rw [if_pos rfl, if_pos hl, hf]
    show some (Value.long _) = _
    simp [zgL, zsL]
  · rw [if_neg h]
    cases h2 : fds[i]? with
    | none => rfl
    | some f =>
      refine congrArg some (zval_oth rfl ?_)
      simp [zgL, zsL]
      intro h4; exact absurd h4.symm h
theorem zgI_row {w : zz_W} {k i : Nat} {v : Int32} : zgI (zsI w k i v) k = upd (zgI w k) i v := by
  funext j
  by_cases h : j = i
  · subst h; simp [zgI, zsI, upd]
  · simp [zgI, zsI, upd, h]
theorem zgL_row {w : zz_W} {k i : Nat} {v : Int64} : zgL (zsL w k i v) k = vp_updL (zgL w k) i v := by
  funext j
  by_cases h : j = i
  · subst h; simp [zgL, zsL, vp_updL]
  · simp [zgL, zsL, vp_updL, h]
