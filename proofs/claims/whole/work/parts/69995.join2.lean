/-! ===== text: an E ===== -/
theorem c_join37F {c0 m0 c : zz_W} {x : Option (Int32 × zz_W)} (h : zFail c0 m0 c x) {F : Int32 → Int32 → Int32 → zz_W → Option zz_W} {G : Int32 → Int32 → zz_W → Option zz_W} (a1 a2 a3 l1 l2 l3 l4 l5 : Int32) (n : Nat) : fX4_join_37 F G a1 a2 a3 (n + 1) l1 l2 l3 l4 l5 c = some c := by
  obtain ⟨f, m1, f1, f2, _⟩ := h
  rw [fX4_join_37, zbd_s, f2, if_pos (nI_pos' (by omega))]
  split <;> rfl
theorem w_loop {c0 m0 : zz_W} {T key d L br nt st0 : Nat} {B : Nat → Nat} {X S : List Nat} {mm : zz_W} (hb0 : zBy c0 m0 T B) {F : Int32 → Int32 → Int32 → zz_W → Option zz_W} {G : Int32 → Int32 → zz_W → Option zz_W} (hF : zMF c0 m0 T B key d F) (hL : L ≤ 4) (hL2 : ¬ L = 2) (hbr : br ≤ 8) (hnt : nt ≤ 8) (hd : 7 * (8 - br) + (8 - nt) + (6 - L) ≤ d) (hz : znt S = nt) (hS : zstop (L + 1) S) (a1 a2 a3 : Int32) :
    ∀ e n c x st i fl, T - st ≤ e → i ≤ st → st ≤ T → e + 1 < n → zLo c0 m0 T B key L br nt X S st0 mm c x st fl →
    ∃ c1, fX4_join_37 F G a1 a2 a3 n (nI L) (nI br) (nI nt) (nI 96) (nI i) c = some c1 ∧ (zFail c0 m0 c1 x ∨ zOkF c0 m0 T B key L br nt X S st0 mm c1 x) := by
  have hT := hb0.1
  intro e
  induction e with
  | zero =>
    intro n c x st i fl he hi hst hn h
    obtain ⟨n, rfl⟩ : ∃ y, n = y + 1 := ⟨n - 1, by omega⟩
    by_cases q : i < 96
    · rcases w_iter hb0 hF hL hbr hnt hd hz hS (fun z => absurd z hL2) h a1 a2 a3 q (Nat.le_refl 96) n with ⟨c1, r1, r2⟩ | ⟨c3, r1, r2⟩
      · exact ⟨c1, r1, Or.inr r2⟩
      · obtain ⟨n, rfl⟩ : ∃ y, n = y + 1 := ⟨n - 1, by omega⟩
        rcases r2 with r2 | ⟨st3, r3, r4⟩
        · exact ⟨c3, by rw [r1, c_join37F r2], Or.inl r2⟩
        · exfalso
          obtain ⟨m3, en3, κ3, Z3, Y3, D3, k3, b1, _⟩ := r4
          have := (zTk_st b1.1).1
          omega
    · -- the tape is full of signs: none stands here
      obtain ⟨m, en, κ, Z, Y, D, k, h1, h2, h3, h4, h5, h6, h7, h8, h9, h10, h11⟩ := h
      have hκ : κ = 0 := by rw [h1.1.2.2.2.2.2.1]; exact zkd_0.mpr (by omega)
      refine ⟨c, by rw [fX4_join_37, if_pos (nI_le (by omega) (by omega))], Or.inr ⟨m, st, en, κ, Z, Y, D, k, h1, h2, h3, h4, h5, fun s hs e3 => by omega, h7, h8, h9, h10⟩⟩
  | succ e ih =>
    intro n c x st i fl he hi hst hn h
    by_cases q0 : T - st ≤ e
    · exact ih n c x st i fl q0 hi hst (by omega) h
    obtain ⟨n, rfl⟩ : ∃ y, n = y + 1 := ⟨n - 1, by omega⟩
    rcases w_iter hb0 hF hL hbr hnt hd hz hS (fun z => absurd z hL2) h a1 a2 a3 (show i < 96 by omega) (Nat.le_refl 96) n with ⟨c1, r1, r2⟩ | ⟨c3, r1, r2⟩
    · exact ⟨c1, r1, Or.inr r2⟩
    · rcases r2 with r2 | ⟨st3, r3, r4⟩
      · obtain ⟨n, rfl⟩ : ∃ y, n = y + 1 := ⟨n - 1, by omega⟩
        exact ⟨c3, by rw [r1, c_join37F r2], Or.inl r2⟩
      · have hst3 : st3 ≤ T := by
          obtain ⟨m3, en3, κ3, Z3, Y3, D3, k3, b1, _⟩ := r4
          exact (zTk_st b1.1).1
        obtain ⟨c1, s1, s2⟩ := ih n c3 x st3 (i + 1) _ (by omega) (by omega) hst3 (by omega) r4
        exact ⟨c1, by rw [r1, s1], s2⟩
theorem w_join {c0 m0 : zz_W} {T key d : Nat} {B : Nat → Nat} (hb0 : zBy c0 m0 T B) {F : Int32 → Int32 → Int32 → zz_W → Option zz_W} {G : Int32 → Int32 → zz_W → Option zz_W} (hF : zMF c0 m0 T B key d F) (hG : zMG c0 m0 T B key d G) : zMF c0 m0 T B key (d + 1) (bX4_join F G) := by
  intro L br nt c m st en κ bad X S k hL hbr hnt hd h hz hS hfl hk
  have hT := hb0.1
  have hf := zfuel_big
  unfold bX4_join
  by_cases e5 : L = 5
  · subst e5
    rw [if_neg (show ¬ nI 5 ≤ 4 by decide), zbd_id]
    obtain ⟨c1, r1, r2⟩ := hG br nt c m st en κ bad X S 0 k hbr hnt (by omega) h hz hS hk
    refine ⟨c1, r1, ?_⟩
    rcases r2 with r2 | ⟨m1, st1, en1, κ1, Z, k1, b1, b2, b3, b4, b5, b6⟩
    · exact Or.inl r2
    · right
      refine ⟨m1, st1, en1, κ1, Z, X ++ Z, [], k1, ?_, by simp, b2, b3, fun t ht => (by cases ht), fun s hs _ _ => Or.inl ?_, fun b hb => b4 b (by omega), fun _ => by rw [b4 br (Nat.le_refl br)], by rw [b5, hz], b6⟩
      · have : X ++ Z ++ List.replicate 0 9 = X ++ Z := by simp
        rw [this] at b1
        exact b1
      · unfold zrk2
        (repeat' split) <;> omega
  · rw [if_pos (show nI L ≤ 4 from nI_le (b := 4) (by omega) (by omega)), nI_1]
    have hS' : zstop (L + 1 + 1) S := by
      cases S with
      | nil => trivial
      | cons a S =>
        rcases hS with q | ⟨q1, q2⟩
        · exact Or.inl q
        · exact Or.inr ⟨q1, by omega⟩
    obtain ⟨c1, r1, r2⟩ := hF (L + 1) br nt c m st en κ bad X S k (by omega) hbr hnt (by omega) h hz hS' (fun z => hfl (by omega)) hk
    rw [r1, zbd_s]
    obtain ⟨f, hf1⟩ : ∃ f, zfuel = f + 1 := ⟨3999, rfl⟩
    rcases r2 with r2 | ⟨m1, st1, en1, κ1, Z, Y1, D, k1, b1, b2, b3, b4, b5, b6, b7, b8, b9, b10⟩
    · refine ⟨c1, ?_, Or.inl r2⟩
      rw [hf1, c_join37F r2, c_join37F r2]
      split <;> rfl
    · have hst1 := (zTk_st b1.1).1
      by_cases e2 : L = 2
      · subst e2
        have hz0 := (b8 (by omega)).mpr (hfl (by omega))
        have lo : zLo c0 m0 T B key 2 br nt X S st m c1 (fX8_takesE_28 k (nI br) (nI nt) 1 m) st1 (fun v => v = 0) := ⟨m1, en1, κ1, Z, Y1, D, k1, b1, b2, b3, b4, fun t ht => ⟨(b5 t ht).1, by have := (b5 t ht).2; omega⟩, b6, b7, fun z => by omega, b9, b10, hz0⟩
        rw [if_pos (show nI 2 = 2 from rfl)]
        rcases w_iter hb0 hF (show 2 ≤ 4 by omega) hbr hnt (by omega) hz hS (fun _ v hv => hv) lo (nI 2) (nI br) (nI nt) (show 0 < 1 by omega) (by omega) f with ⟨c2, s1, s2⟩ | ⟨c3, s1, s2⟩
        · exact ⟨c2, by rw [hf1]; exact s1, Or.inr s2⟩
        · obtain ⟨f', hf2⟩ : ∃ f', f = f' + 1 := ⟨f - 1, by omega⟩
          have e37 : fX4_join_37 F G (nI 2) (nI br) (nI nt) f (nI 2) (nI br) (nI nt) (nI 1) (nI (0 + 1)) c3 = some c3 := by
            rw [hf2, fX4_join_37, if_pos (nI_le (by omega) (by omega))]
          refine ⟨c3, by rw [hf1]; exact s1.trans e37, ?_⟩
          rcases s2 with s2 | ⟨st3, s3, m3, en3, κ3, Z3, Y3, D3, k3, d1, d2, d3, d4, d5, d6, d7, d8, d9, d10, d11⟩
          · exact Or.inl s2
          · right
            refine ⟨m3, st3, en3, κ3, Z3, Y3, D3, k3, d1, d2, d3, d4, d5, fun s hs e3 eB => ?_, d7, fun z => by omega, d9, d10⟩
            rcases d6 s hs e3 eB with q | q
            · by_cases q3 : zrk2 s = 3
              · exact Or.inr ⟨q3, d11 rfl⟩
              · exact Or.inl (by omega)
            · exact Or.inr q
      · have lo : zLo c0 m0 T B key L br nt X S st m c1 (fX8_takesE_28 k (nI br) (nI nt) 1 m) st1 (fun _ => True) := ⟨m1, en1, κ1, Z, Y1, D, k1, b1, b2, b3, b4, fun t ht => ⟨(b5 t ht).1, by have := (b5 t ht).2; omega⟩, b6, b7, fun z => b8 (by omega), b9, b10, trivial⟩
        rw [if_neg (show ¬ nI L = 2 from fun z => e2 ((nI_eq (b := 2) (by omega) (by decide)).mp z))]
        exact w_loop hb0 hF (by omega) e2 hbr hnt (by omega) hz hS (nI L) (nI br) (nI nt) (T - st1) zfuel c1 _ st1 0 _ (Nat.le_refl _) (by omega) hst1 (by omega) lo
theorem w_JR {c0 m0 : zz_W} {T key : Nat} {B : Nat → Nat} (hkey : key < 3) (hb0 : zBy c0 m0 T B) : ∀ d, zMF c0 m0 T B key d (fJR d).1 ∧ zMG c0 m0 T B key d (fJR d).2 := by
  intro d
  induction d with
  | zero =>
    refine ⟨fun L br nt c m st en κ bad X S k hL hbr hnt hd => ?_, fun br nt c m st en κ bad X S0 j k hbr hnt hd => ?_⟩
    · omega
    · omega
  | succ d ih => exact ⟨w_join hb0 ih.1 ih.2, w_piece hkey hb0 ih.1 ih.2⟩
