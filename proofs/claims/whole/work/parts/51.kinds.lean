/-! ===== pure: kinds, what a RUN passes and tells ===== -/
theorem zdiv6 (x : Int32) : zdiv x 6 = some (x / 6) := by unfold zdiv; rw [if_neg (by decide)]
theorem zrem6 (x : Int32) : zrem x 6 = some (x - x / 6 * 6) := by unfold zrem; rw [if_neg (by decide)]
theorem zrem2 (x : Int32) : zrem x 2 = some (x - x / 2 * 2) := by unfold zrem; rw [if_neg (by decide)]
theorem m_of (r k : Nat) (hr : r < 10) (hk : k < 5) (m : zz_W) : fX8_of (nI r) (nI k) m = some (zgI m 1 (14 + 5 * r + k), m) := by
  unfold fX8_of
  rw [show ((14 + 5 * nI r) + nI k : Int32) = nI (14 + 5 * r + k) by
    rw [show (14 : Int32) = nI 14 from rfl, show (5 : Int32) = nI 5 from rfl, pk_mul, nI_add, nI_add]]
  rw [zld (by omega) (by decide)]
  rfl
theorem m_of0 {r : Nat} (hr : r < 10) (m : zz_W) : fX8_of (nI r) 0 m = some (zgI m 1 (14 + 5 * r), m) := m_of r 0 hr (by decide) m
theorem m_of1 {r : Nat} (hr : r < 10) (m : zz_W) : fX8_of (nI r) 1 m = some (zgI m 1 (15 + 5 * r), m) := by rw [show 15 + 5 * r = 14 + 5 * r + 1 by omega]; exact m_of r 1 hr (by decide) m
theorem m_of2 {r : Nat} (hr : r < 10) (m : zz_W) : fX8_of (nI r) 2 m = some (zgI m 1 (16 + 5 * r), m) := by rw [show 16 + 5 * r = 14 + 5 * r + 2 by omega]; exact m_of r 2 hr (by decide) m
theorem m_of3 {r : Nat} (hr : r < 10) (m : zz_W) : fX8_of (nI r) 3 m = some (zgI m 1 (17 + 5 * r), m) := by rw [show 17 + 5 * r = 14 + 5 * r + 3 by omega]; exact m_of r 3 hr (by decide) m
theorem m_of4 {r : Nat} (hr : r < 10) (m : zz_W) : fX8_of (nI r) 4 m = some (zgI m 1 (18 + 5 * r), m) := by rw [show 18 + 5 * r = 14 + 5 * r + 4 by omega]; exact m_of r 4 hr (by decide) m
theorem m_put (r k : Nat) (v : Int32) (hr : r < 10) (hk : k < 5) (m : zz_W) : fX8_put (nI r) (nI k) v m = some (zsI m 1 (14 + 5 * r + k) v) := by
  unfold fX8_put
  rw [show ((14 + 5 * nI r) + nI k : Int32) = nI (14 + 5 * r + k) by
    rw [show (14 : Int32) = nI 14 from rfl, show (5 : Int32) = nI 5 from rfl, pk_mul, nI_add, nI_add]]
  rw [zst (by omega) (by decide)]
  rfl
theorem m_put4 {r : Nat} (hr : r < 10) (v : Int32) (m : zz_W) : fX8_put (nI r) 4 v m = some (zsI m 1 (18 + 5 * r) v) := by rw [show 18 + 5 * r = 14 + 5 * r + 4 by omega]; exact m_put r 4 v hr (by decide) m
def zwt (v a b : Int32) : Int32 := if a ≤ v then (if v ≤ b then v else b) else a
theorem m_within (v a b : Int32) (w : zz_W) : fX8_within v a b w = some (zwt v a b, w) := by unfold fX8_within zwt; simp only [zite_some]
def zp (kd c0 x : Int32) : Int32 :=
  if kd = 2 then (if x / 6 - c0 / 6 = 0 then (if x - x / 6 * 6 < c0 - c0 / 6 * 6 then 0 else 1) else 0)
  else if kd = 3 then (if x / 6 - c0 / 6 < 0 then 0 else (if x - x / 6 * 6 = zwt ((c0 - c0 / 6 * 6) + (x / 6 - c0 / 6)) 0 5 then 1 else 0))
  else if kd = 4 then (if x / 6 - c0 / 6 = 0 then (if c0 - c0 / 6 * 6 ≤ x - x / 6 * 6 then 1 else (if x / 6 - c0 / 6 ≤ 0 then 0 else (if x - x / 6 * 6 = 5 then 1 else 0))) else (if x / 6 - c0 / 6 ≤ 0 then 0 else (if x - x / 6 * 6 = 5 then 1 else 0)))
  else if kd = 5 then (if x - x / 6 * 6 = c0 - c0 / 6 * 6 then 1 else (if (x - x / 6 * 6) - (c0 - c0 / 6 * 6) = 3 then 1 else (if (c0 - c0 / 6 * 6) - (x - x / 6 * 6) = 3 then 1 else 0)))
  else (if x / 6 - c0 / 6 < 0 then 0 else (if x - x / 6 * 6 = c0 - c0 / 6 * 6 then 1 else 0))
theorem zp_01 (kd c0 x : Int32) : zp kd c0 x = 0 ∨ zp kd c0 x = 1 := by
  unfold zp
  repeat' split
  all_goals first | exact Or.inl rfl | exact Or.inr rfl
theorem m_pass {r : Nat} (hr : r < 10) (x : Int32) (m : zz_W) : fX8_doesPass (nI r) x m = some (zp (zgI m 1 (14 + 5 * r)) (zgI m 1 (15 + 5 * r)) x, m) := by
  unfold fX8_doesPass fX8_doesPass_120 zp
  simp only [zdiv6, zrem6, m_of0 hr, m_of1 hr, zbd_s, zbd2_s, m_within, zite_some]
def zhs (L : Int64) (x : Int32) : Int32 := if (lg_cmp (((L.toUInt64 >>> ((Int32.toInt64 x).toUInt64 &&& Int64.toUInt64 63)).toInt64) &&& 1) 0) = 0 then 0 else 1
theorem c_has (L : Int64) (x : Int32) (w : zz_W) : fX0_has L x w = some (zhs L x, w) := by unfold fX0_has zhs; simp only [zite_some]
theorem zhs_01 (L : Int64) (x : Int32) : zhs L x = 0 ∨ zhs L x = 1 := by unfold zhs; split; exact Or.inl rfl; exact Or.inr rfl
/-! what a RUN passes, as a set -/
def zd : zz_W := (fun _ _ => 0, fun _ _ => 0, fun _ _ => none, (0, fun _ => 0))
theorem c_up5 (a1 a2 : Int32) : ∀ (n : Nat) (l1 : Int32) (l2 : Int64) (l4 : Int32) (w : zz_W), fX0_upwards_5 a1 a2 n l1 l2 l4 w = (fX0_upwards_5 a1 a2 n l1 l2 l4 zd).map (fun x => (x.1, w)) := by
  intro n
  induction n with
  | zero => intro l1 l2 l4 w; rw [fX0_upwards_5, fX0_upwards_5]; rfl
  | succ n ih =>
    intro l1 l2 l4 w
    rw [fX0_upwards_5, fX0_upwards_5]
    split
    · rfl
    · exact ih _ _ _ w
theorem c_al5 (a1 a2 : Int32) : ∀ (n : Nat) (l1 : Int32) (l2 : Int64) (l4 : Int32) (w : zz_W), fX0_along_5 a1 a2 n l1 l2 l4 w = (fX0_along_5 a1 a2 n l1 l2 l4 zd).map (fun x => (x.1, w)) := by
  intro n
  induction n with
  | zero => intro l1 l2 l4 w; rw [fX0_along_5, fX0_along_5]; rfl
  | succ n ih =>
    intro l1 l2 l4 w
    rw [fX0_along_5, fX0_along_5]
    split
    · rfl
    · exact ih _ _ _ w
theorem c_sl5 (a1 a2 : Int32) : ∀ (n : Nat) (l0 l1 : Int32) (l2 : Int64) (l4 : Int32) (w : zz_W), fX0_slanted_5 a1 a2 n l0 l1 l2 l4 w = (fX0_slanted_5 a1 a2 n l0 l1 l2 l4 zd).map (fun x => (x.1, w)) := by
  intro n
  induction n with
  | zero => intro l0 l1 l2 l4 w; rw [fX0_slanted_5, fX0_slanted_5]; rfl
  | succ n ih =>
    intro l0 l1 l2 l4 w
    rw [fX0_slanted_5, fX0_slanted_5]
    split
    · rfl
    · exact ih _ _ _ _ w
theorem zbd2_map {α β γ : Type} (X : Option (α × γ)) (w : β) {δ : Type} (f : α → β → Option δ) : zbd2 (X.map (fun x => (x.1, w))) f = zbd2 X (fun a _ => f a w) := by cases X <;> rfl
theorem c_ways0 (a1 a2 : Int32) (w : zz_W) : fX0_cellsOf a1 a2 w = (fX0_cellsOf a1 a2 zd).map (fun x => (x.1, w)) := by
  unfold fX0_cellsOf fX0_along fX0_slanted fX0_upwards
  simp only [zdiv6, zrem6, zbd_s]
  have hu : ∀ (p q l1 : Int32) (l2 : Int64) (l4 : Int32) (w : zz_W), fX0_upwards_5 p q zfuel l1 l2 l4 w = (fX0_upwards_5 p q zfuel l1 l2 l4 zd).map (fun x => (x.1, w)) := fun p q l1 l2 l4 w => c_up5 p q zfuel l1 l2 l4 w
  have ha : ∀ (p q l1 : Int32) (l2 : Int64) (l4 : Int32) (w : zz_W), fX0_along_5 p q zfuel l1 l2 l4 w = (fX0_along_5 p q zfuel l1 l2 l4 zd).map (fun x => (x.1, w)) := fun p q l1 l2 l4 w => c_al5 p q zfuel l1 l2 l4 w
  have hs : ∀ (p q l0 l1 : Int32) (l2 : Int64) (l4 : Int32) (w : zz_W), fX0_slanted_5 p q zfuel l0 l1 l2 l4 w = (fX0_slanted_5 p q zfuel l0 l1 l2 l4 zd).map (fun x => (x.1, w)) := fun p q l0 l1 l2 l4 w => c_sl5 p q zfuel l0 l1 l2 l4 w
  split
  · rw [ha]
    cases fX0_along_5 (a2 / 6) (a2 - a2 / 6 * 6) zfuel (a2 / 6) 0 (a2 - a2 / 6 * 6) zd <;> rfl
  · split
    · rw [hs]
      cases fX0_slanted_5 (a2 / 6) (a2 - a2 / 6 * 6) zfuel (a2 / 6) (a2 - a2 / 6 * 6) 0 (a2 / 6) zd <;> rfl
    · split
      · rw [ha]
        cases fX0_along_5 (a2 / 6) (a2 - a2 / 6 * 6) zfuel (a2 / 6) 0 (a2 - a2 / 6 * 6) zd with
        | none => rfl
        | some v =>
          show zbd2 (fX0_upwards_5 (a2 / 6 + 1) 5 zfuel 5 0 (a2 / 6 + 1) w) _ = Option.map _ (zbd2 (fX0_upwards_5 (a2 / 6 + 1) 5 zfuel 5 0 (a2 / 6 + 1) v.2) _)
          rw [hu _ _ _ _ _ w, hu _ _ _ _ _ v.2]
          cases fX0_upwards_5 (a2 / 6 + 1) 5 zfuel 5 0 (a2 / 6 + 1) zd <;> rfl
      · split
        · rw [hu _ _ _ _ _ w]
          cases fX0_upwards_5 0 (a2 - a2 / 6 * 6) zfuel (a2 - a2 / 6 * 6) 0 0 zd with
          | none => rfl
          | some v =>
            obtain ⟨v1, v2⟩ := v
            simp only [Option.map_some, zbd2_s]
            rw [hu _ _ _ _ _ w, hu _ _ _ _ _ v2]
            cases fX0_upwards_5 0 (a2 - a2 / 6 * 6 + 3 - (a2 - a2 / 6 * 6 + 3) / 6 * 6) zfuel (a2 - a2 / 6 * 6 + 3 - (a2 - a2 / 6 * 6 + 3) / 6 * 6) 0 0 zd <;> rfl
        · rw [hu _ _ _ _ _ w]
          cases fX0_upwards_5 (a2 / 6) (a2 - a2 / 6 * 6) zfuel (a2 - a2 / 6 * 6) 0 (a2 / 6) zd <;> rfl
noncomputable def zways (a1 a2 : Int32) : Int64 := ((fX0_cellsOf a1 a2 zd).getD (0, zd)).1
theorem zways_some : ∀ k, k < 6 → ∀ q, q < 36 → (fX0_cellsOf (nI k) (nI q) zd).isSome = true := by decide +kernel
theorem c_ways {k q : Nat} (hk : k < 6) (hq : q < 36) (w : zz_W) : fX0_cellsOf (nI k) (nI q) w = some (zways (nI k) (nI q), w) := by
  rw [c_ways0]
  have h := zways_some k hk q hq
  unfold zways
  cases e : fX0_cellsOf (nI k) (nI q) zd with
  | none => rw [e] at h; cases h
  | some v => rfl
theorem zp_ways : ∀ k, k < 6 → ∀ q, q < 36 → ∀ x, x < 36 → zhs (zways (nI k) (nI q)) (nI x) = zp (nI k) (nI q) (nI x) := by decide +kernel
/-! tells -/
def zct15 (l0 l1 l2 : Int32) (l3 : Int64) (s0 : Int32) : Int64 :=
  if l2 = 0 then (if l0 = 5 then l3 else (if s0 = 0 then 0 else (if 3 < l1 then 0 else l3)))
  else if l2 = 1 then (if l0 = 5 then l3 &&& 1057222719 else (if s0 = 0 then l3 else (if l1 ≤ 6 then l3 else 0)))
  else if l2 = 2 then (if s0 = 0 then 0 else l3) else l3
def zct (a1 a2 a3 : Int32) (a4 : Int64) : Int64 := if a1 = 2 then zct15 a1 a2 a3 a4 1 else (if a1 = 4 then zct15 a1 a2 a3 a4 1 else zct15 a1 a2 a3 a4 0)
theorem c_cellsTold (a1 a2 a3 : Int32) (a4 : Int64) (w : zz_W) : fX0_cellsTold a1 a2 a3 a4 w = some (zct a1 a2 a3 a4, w) := by
  unfold fX0_cellsTold fX0_cellsTold_10 fX0_cellsTold_15 zct zct15
  simp only [zite_some]
def zt33 (dp s x q kd s0 : Int32) : Int32 :=
  if s = 0 then (if q = 0 then 0 else (if kd = 5 then 1 else (if s0 = 0 then 0 else (if 4 ≤ dp then 0 else 1))))
  else if s = 1 then (if q = 0 then 0 else (if s0 = 0 then (if kd = 5 then (if (x / 6 - x / 6 / 2 * 2) = 0 then 1 else 0) else 1) else (if 7 ≤ dp then 0 else 1)))
  else if s = 2 then (if q = 0 then 0 else (if s0 = 0 then 0 else 1)) else q
def zt (kd dp s c0 x : Int32) : Int32 := if kd = 2 then zt33 dp s x (zp kd c0 x) kd 1 else (if kd = 4 then zt33 dp s x (zp kd c0 x) kd 1 else zt33 dp s x (zp kd c0 x) kd 0)
theorem zboo_p (kd c0 x : Int32) : zboo (zp kd c0 x) = some (zp kd c0 x) := by unfold zboo; rw [if_pos (zp_01 kd c0 x)]
theorem m_tell {r : Nat} (hr : r < 10) (s x : Int32) (m : zz_W) : fX8_doesTell (nI r) s x m = some (zt (zgI m 1 (14 + 5 * r)) (zgI m 1 (17 + 5 * r)) s (zgI m 1 (15 + 5 * r)) x, m) := by
  unfold fX8_doesTell fX8_doesTell_28 fX8_doesTell_33 zt zt33
  simp only [m_pass hr, m_of0 hr, m_of3 hr, zbd2_s, zbd_s, zdiv6, zrem2, zboo_p, zite_some]
theorem zhs_0 : ∀ x, x < 36 → zhs 0 (nI x) = 0 := by decide +kernel
theorem zhs_ev : ∀ q, q < 36 → ∀ x, x < 36 → zhs (zways 5 (nI q) &&& 1057222719) (nI x) = (if zp 5 (nI q) (nI x) = 0 then 0 else (if (nI x / 6 - nI x / 6 / 2 * 2) = 0 then 1 else 0)) := by decide +kernel
theorem zlt34 : ∀ d, d < 10 → (3 < nI d ↔ 4 ≤ nI d) := by decide +kernel
theorem zle67 : ∀ d, d < 10 → (nI d ≤ 6 ↔ ¬ 7 ≤ nI d) := by decide +kernel
theorem zt_eq {k d s q x : Nat} (hk : k < 6) (hd : d < 10) (hs : s < 4) (hq : q < 36) (hx : x < 36) : zhs (zct (nI k) (nI d) (nI s) (zways (nI k) (nI q))) (nI x) = zt (nI k) (nI d) (nI s) (nI q) (nI x) := by
  have hP := zp_ways k hk q hq x hx
  have h01 := zp_01 (nI k) (nI q) (nI x)
  have h0 := zhs_0 x hx
  have l1 := zlt34 d hd
  have l2 := zle67 d hd
  have hE := zhs_ev q hq x hx
  rcases (show k = 0 ∨ k = 1 ∨ k = 2 ∨ k = 3 ∨ k = 4 ∨ k = 5 by omega) with rfl | rfl | rfl | rfl | rfl | rfl <;> rcases (show s = 0 ∨ s = 1 ∨ s = 2 ∨ s = 3 by omega) with rfl | rfl | rfl | rfl
  all_goals
    unfold zct zct15 zt zt33
    simp only [show nI 0 = 0 from rfl, show nI 1 = 1 from rfl, show nI 2 = 2 from rfl, show nI 3 = 3 from rfl, show nI 4 = 4 from rfl, show nI 5 = 5 from rfl] at *
    simp only [show ¬ (0 : Int32) = 1 by decide, show ¬ (0 : Int32) = 2 by decide, show ¬ (0 : Int32) = 4 by decide, show ¬ (0 : Int32) = 5 by decide, show ¬ (1 : Int32) = 0 by decide, show ¬ (1 : Int32) = 2 by decide, show ¬ (1 : Int32) = 4 by decide, show ¬ (1 : Int32) = 5 by decide, show ¬ (2 : Int32) = 0 by decide, show ¬ (2 : Int32) = 1 by decide, show ¬ (2 : Int32) = 5 by decide, show ¬ (3 : Int32) = 0 by decide, show ¬ (3 : Int32) = 1 by decide, show ¬ (3 : Int32) = 2 by decide, show ¬ (3 : Int32) = 4 by decide, show ¬ (3 : Int32) = 5 by decide, show ¬ (4 : Int32) = 2 by decide, show ¬ (4 : Int32) = 5 by decide, show ¬ (5 : Int32) = 2 by decide, show ¬ (5 : Int32) = 4 by decide, if_true, if_false, h0, hE, hP]
  all_goals
    by_cases c4 : 4 ≤ nI d <;> by_cases c7 : 7 ≤ nI d
    all_goals
      simp only [c4, c7, not_true_eq_false, not_false_eq_true, iff_true, iff_false] at l1 l2
      rcases h01 with e | e <;> simp [e, h0, hP, l1, l2, hE, c4, c7]
