theorem zW1 : zisW 1 = true := by decide
theorem zW11 : zisW 11 = true := by decide
theorem zW21 : zisW 21 = true := by decide
theorem zc_0 (w : zz_W) : zAt zshC znnC w 0 (.inr (6, [1 + 2, 11 + 2, 21 + 2, 31 + 2, 36 + 2, 39 + 2, 40 + 2, 41 + 2, 0, 0])) := zc_lit w (by decide) rfl
theorem zc_31 (w : zz_W) : zAt zshC znnC w 31 (.inr (0, [0, 0, 0, 0, 32 + 2, 33 + 2, 34 + 2, 35 + 2, 1, 0])) := zc_lit w (by decide) rfl
theorem zc_32 (w : zz_W) : zAt zshC znnC w 32 (.inl (0, 24)) := zc_lit w (by decide) rfl
theorem zc_33 (w : zz_W) : zAt zshC znnC w 33 (.inl (1, 24)) := zc_lit w (by decide) rfl
theorem zc_34 (w : zz_W) : zAt zshC znnC w 34 (.inl (1, 10)) := zc_lit w (by decide) rfl
theorem zc_35 (w : zz_W) : zAt zshC znnC w 35 (.inl (1, 10)) := zc_lit w (by decide) rfl
theorem zc_36 (w : zz_W) : zAt zshC znnC w 36 (.inr (3, [0, 37 + 2, 38 + 2, 0, 0, 0, 0, 0, 0, 0])) := zc_lit w (by decide) rfl
theorem zc_37 (w : zz_W) : zAt zshC znnC w 37 (.inl (0, 96)) := zc_lit w (by decide) rfl
theorem zc_38 (w : zz_W) : zAt zshC znnC w 38 (.inl (0, 96)) := zc_lit w (by decide) rfl
theorem zc_39 (w : zz_W) : zAt zshC znnC w 39 (.inl (4, 4)) := zc_lit w (by decide) rfl
theorem zc_40 (w : zz_W) : zAt zshC znnC w 40 (.inl (5, 5)) := zc_lit w (by decide) rfl
theorem zc_41 (w : zz_W) : zAt zshC znnC w 41 (.inl (0, 60)) := zc_lit w (by decide) rfl
theorem zm_0 (w : zz_W) : zAt zshM znnM w 0 (.inr (7, [1 + 2, 2 + 2, 3 + 2, 0, 4 + 2, 5 + 2, 6 + 2, 7 + 2, 0, 0, 0, 0, 0, 0, 0, 8 + 2, 9 + 2, 10 + 2, 0, 0, 11 + 2, 0, 12 + 2, 13 + 2, 14 + 2, 15 + 2, 16 + 2, 17 + 2, 18 + 2, 19 + 2, 20 + 2, 21 + 2, 22 + 2, 23 + 2, 0])) := zm_lit w (by decide) rfl
theorem zm_1 (w : zz_W) : zAt zshM znnM w 1 (.inl (0, 1436)) := zm_lit w (by decide) rfl
theorem zm_2 (w : zz_W) : zAt zshM znnM w 2 (.inl (0, 1436)) := zm_lit w (by decide) rfl
theorem zm_3 (w : zz_W) : zAt zshM znnM w 3 (.inl (0, 1436)) := zm_lit w (by decide) rfl
theorem zm_4 (w : zz_W) : zAt zshM znnM w 4 (.inl (0, 10)) := zm_lit w (by decide) rfl
theorem zm_5 (w : zz_W) : zAt zshM znnM w 5 (.inl (0, 10)) := zm_lit w (by decide) rfl
theorem zm_6 (w : zz_W) : zAt zshM znnM w 6 (.inl (0, 64)) := zm_lit w (by decide) rfl
theorem zm_7 (w : zz_W) : zAt zshM znnM w 7 (.inl (0, 96)) := zm_lit w (by decide) rfl
theorem zm_8 (w : zz_W) : zAt zshM znnM w 8 (.inl (3, 11)) := zm_lit w (by decide) rfl
theorem zm_9 (w : zz_W) : zAt zshM znnM w 9 (.inl (0, 4)) := zm_lit w (by decide) rfl
theorem zm_10 (w : zz_W) : zAt zshM znnM w 10 (.inl (0, 96)) := zm_lit w (by decide) rfl
theorem zm_11 (w : zz_W) : zAt zshM znnM w 11 (.inl (0, 96)) := zm_lit w (by decide) rfl
theorem zm_12 (w : zz_W) : zAt zshM znnM w 12 (.inl (2, 10)) := zm_lit w (by decide) rfl
theorem zm_13 (w : zz_W) : zAt zshM znnM w 13 (.inl (0, 96)) := zm_lit w (by decide) rfl
theorem zm_14 (w : zz_W) : zAt zshM znnM w 14 (.inl (0, 4)) := zm_lit w (by decide) rfl
theorem zm_15 (w : zz_W) : zAt zshM znnM w 15 (.inl (0, 4)) := zm_lit w (by decide) rfl
theorem zm_16 (w : zz_W) : zAt zshM znnM w 16 (.inl (0, 4)) := zm_lit w (by decide) rfl
theorem zm_17 (w : zz_W) : zAt zshM znnM w 17 (.inl (0, 96)) := zm_lit w (by decide) rfl
theorem zm_18 (w : zz_W) : zAt zshM znnM w 18 (.inl (0, 5)) := zm_lit w (by decide) rfl
theorem zm_19 (w : zz_W) : zAt zshM znnM w 19 (.inl (0, 5)) := zm_lit w (by decide) rfl
theorem zm_20 (w : zz_W) : zAt zshM znnM w 20 (.inl (0, 5)) := zm_lit w (by decide) rfl
theorem zm_21 (w : zz_W) : zAt zshM znnM w 21 (.inl (0, 120)) := zm_lit w (by decide) rfl
theorem zm_22 (w : zz_W) : zAt zshM znnM w 22 (.inl (0, 24)) := zm_lit w (by decide) rfl
theorem zm_23 (w : zz_W) : zAt zshM znnM w 23 (.inl (0, 60)) := zm_lit w (by decide) rfl
theorem zinc {x v : Int32} {n : Int} {k : Int32} (hk : Int32.ofInt n = k) (h : some (x + k) = some v) : x + Int32.ofInt n = v := by cases h; rw [hk]
def zopt {β : Type} (v : Option Nat) (a : β) (f : Nat → β) : β := match v with
  | none => a
  | some q => f q
theorem zoptN {β : Type} {a : Option β} {f : Nat → Option β} {r : β} (h : zopt none a f = some r) : a = some r := h
theorem zoptS {β : Type} {a : Option β} {f : Nat → Option β} {q : Nat} {r : β} (h : zopt (some q) a f = some r) : f q = some r := h
