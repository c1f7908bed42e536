/-! sheets: both sides -/
theorem R.of {N M : Nat} {CC : Nat → Nat → List Int32} {wc wr wc' wr' : Mem} (hB : Bo 0 N M CC wc wr) (hT : TB (wr 5 0 5)) (hP : PR wc wr) (hI : IR N M wc wr) (hS : SR wc' wr') (q0 : ∀ a b c, (a = 0 ∨ a = 13 ∨ a = 14 ∨ a = 15 ∨ a = 16 ∨ a = 17) → b ≠ 1 → wc' a b c = wc a b c) (q1 : ∀ a b c, (a = 3 ∨ a = 4 ∨ a = 6 ∨ a = 7 ∨ a = 9) → wc' a b c = wc a b c) (q2 : wc' 1 0 1 = wc 1 0 1)
    (r5 : ∀ c, (c = 0 ∨ c = 4 ∨ c = 5 ∨ c = 7 ∨ c = 10 ∨ c = 11 ∨ c = 12) → wr' 5 0 c = wr 5 0 c) (r22 : ∀ c, c < 18 → wr' 22 0 c = wr 22 0 c) (r20 : ∀ a c, (a = 20 ∨ a = 21 ∨ (23 ≤ a ∧ a ≤ 27) ∨ a = 32) → wr' a 0 c = wr a 0 c) : R wc' wr' :=
  ⟨N, M, CC, ⟨hB.1.of (fun c => q0 0 0 c (by omega) (by omega)) (fun a c ha => q0 a 0 c (by omega) (by omega)) (fun c h => r5 c (by omega)) r22 (fun c => r20 20 c (by omega)) (fun c => r20 21 c (by omega)),
     hB.2.1.of (q1 3 0 0 (by omega)) (fun c => q1 6 0 c (by omega)) (fun c => q1 7 0 c (by omega)) (r5 10 (by omega)) (fun c => r20 24 c (by omega)) (fun c => r20 25 c (by omega)),
     hB.2.2.of (r5 11 (by omega))⟩, by rw [r5 5 (by omega)]; exact hT, hS, hP.of q2 (fun c => q1 9 0 c (by omega)) (r5 7 (by omega)) (fun c => r20 23 c (by omega)) (fun c => r20 32 c (by omega)),
   hI.of (Nat.le_refl _) (Nat.le_refl _) (q1 4 0 5 (by omega)) (r5 12 (by omega)) (fun c => q0 0 2 c (by omega) (by omega)) (fun a c ha => q0 a 2 c (by omega) (by omega)) (fun c => r20 26 c (by omega)) (fun c => r20 27 c (by omega)) (fun c _ => r20 20 c (by omega)) (fun c _ => r20 21 c (by omega))⟩
/-- only one sheet is otherwise -/
def OnS (t : Nat) (w w' : Mem) : Prop := ∀ a b c, ¬ (b = t ∧ (a = 2 ∨ a = 19)) → w' a b c = w a b c
theorem becomes_c {t : Nat} (ht : t < 4) (x y : Int32) (w : Mem) : ∃ w', f_X2_becomes t x y w = some w' ∧ w' 2 t 0 = x ∧ w' 2 t 1 = y ∧ (∀ j, j < 40 → w' 19 t j = 0) ∧ OnS t w w' := by
  have loop : ∀ (r q n : Nat) (w1 : Mem), q + r = 40 → r < n → w1 2 t 0 = x → w1 2 t 1 = y → (∀ j, j < q → w1 19 t j = 0) → OnS t w w1 → ∃ w', h_X2_becomes_12 t (fun w2 => some w2) n (nI q) w1 = some w' ∧ w' 2 t 0 = x ∧ w' 2 t 1 = y ∧ (∀ j, j < 40 → w' 19 t j = 0) ∧ OnS t w w' := by
    intro r
    induction r with
    | zero =>
      intro q n w1 hq hn h1 h2 h3 h4
      obtain ⟨n, rfl⟩ : ∃ m, n = m + 1 := ⟨n - 1, by omega⟩
      have e : q = 40 := by omega
      subst e
      refine ⟨w1, ?_, h1, h2, h3, h4⟩
      unfold h_X2_becomes_12
      rw [if_neg (show ¬ nI 40 < 40 by decide)]
    | succ r ih =>
      intro q n w1 hq hn h1 h2 h3 h4
      obtain ⟨n, rfl⟩ : ∃ m, n = m + 1 := ⟨n - 1, by omega⟩
      unfold h_X2_becomes_12
      rw [if_pos (show nI q < 40 from nI_lt (b := 40) (by omega) (by omega)), setV_n w1 t 0 (show q < lenK 19 by show q < 40; omega) (by decide), nI_1]
      refine ih (q + 1) n _ (by omega) (by omega) (by rw [up_k (by decide)]; exact h1) (by rw [up_k (by decide)]; exact h2) (fun j hj => ?_) (fun a b c habc => ?_)
      · by_cases e : j = q
        · subst e; exact up_s _ _ _ _ _
        · rw [up_j e]; exact h3 j (by omega)
      · rw [up_n (fun z => habc ⟨z.2.1, Or.inr z.1⟩)]; exact h4 a b c habc
  unfold f_X2_becomes
  refine loop 40 0 FU _ rfl (by show 40 < 1000000; omega) (by rw [up_j (by decide), up_s]) (up_s _ _ _ _ _) (fun j hj => by omega) (fun a b c habc => ?_)
  rw [up_n (fun z => habc ⟨z.2.1, Or.inl z.1⟩), up_n (fun z => habc ⟨z.2.1, Or.inl z.1⟩)]
theorem zero_r {t : Nat} (ht : t < 4) (kr : Mem → Option (Int32 × Mem)) (w : Mem) : ∀ (r q n : Nat) (w1 : Mem), q + r = 40 → r < n → (∀ j, j < q → w1 30 0 (40 * t + j) = 0) → (∀ a b c, ¬ (a = 30 ∧ b = 0 ∧ 40 * t ≤ c ∧ c < 40 * t + 40) → w1 a b c = w a b c) → ∃ w', h_X5_sheet_70 (nI t) kr n (nI q) w1 = kr w' ∧ (∀ j, j < 40 → w' 30 0 (40 * t + j) = 0) ∧ (∀ a b c, ¬ (a = 30 ∧ b = 0 ∧ 40 * t ≤ c ∧ c < 40 * t + 40) → w' a b c = w a b c) := by
  intro r
  induction r with
  | zero =>
    intro q n w1 hq hn h3 h4
    obtain ⟨n, rfl⟩ : ∃ m, n = m + 1 := ⟨n - 1, by omega⟩
    have e : q = 40 := by omega
    subst e
    refine ⟨w1, ?_, h3, h4⟩
    unfold h_X5_sheet_70
    rw [if_neg (show ¬ nI 40 < 40 by decide)]
  | succ r ih =>
    intro q n w1 hq hn h3 h4
    obtain ⟨n, rfl⟩ : ∃ m, n = m + 1 := ⟨n - 1, by omega⟩
    unfold h_X5_sheet_70
    rw [if_pos (show nI q < 40 from nI_lt (b := 40) (by omega) (by omega)), m40, if_pos (nI_in (by omega) (by omega)), show tn (nI (40 * t + q)) = 40 * t + q from nI_clamp (by omega), nI_1]
    refine ih (q + 1) n _ (by omega) (by omega) (fun j hj => ?_) (fun a b c habc => ?_)
    · by_cases e : j = q
      · subst e; exact up_s _ _ _ _ _
      · rw [up_j (by omega)]; exact h3 j (by omega)
    · rw [up_n (fun z => habc ⟨z.1, z.2.1, by omega, by omega⟩)]; exact h4 a b c habc
theorem SR.new {wc wr wc' wr' : Mem} (h : SR wc wr) {t n : Nat} (ht : t < 4) (hn : n ≤ 40) (c0 : wc' 2 t 0 = wr' 28 0 t) (c1 : wc' 2 t 1 = nI n) (r1 : wr' 29 0 t = nI n) (cc : ∀ k, k < 40 → wc' 19 t k = wr' 30 0 (40 * t + k)) (hc : OnS t wc wc') (r28 : ∀ s, s ≠ t → wr' 28 0 s = wr 28 0 s) (r29 : ∀ s, s ≠ t → wr' 29 0 s = wr 29 0 s) (r30 : ∀ s k, s ≠ t → k < 40 → wr' 30 0 (40 * s + k) = wr 30 0 (40 * s + k)) : SR wc' wr' := by
  intro s hs
  by_cases hst : s = t
  · subst hst
    exact ⟨c0, c1.trans r1.symm, ⟨n, hn, r1⟩, cc⟩
  · obtain ⟨h1, h2, h3, h4⟩ := h s hs
    rw [hc 2 s 0 (fun z => hst z.1), hc 2 s 1 (fun z => hst z.1), r28 s hst, r29 s hst]
    exact ⟨h1, h2, h3, fun k hk => by rw [hc 19 s k (fun z => hst z.1), r30 s k hst hk]; exact h4 k hk⟩
theorem sheet_both {N M t n : Nat} {CC : Nat → Nat → List Int32} {wc wr : Mem} (hB : Bo 0 N M CC wc wr) (hT : TB (wr 5 0 5)) (hP : PR wc wr) (hI : IR N M wc wr) (hS : SR wc wr) (ht : t < 4) (hn : n ≤ 40) (x : Int32) : ∃ wc' wr', f_X2_becomes t x (nI n) wc = some wc' ∧ j_X5_sheet_66 (nI t) (nI n) (nI t) (up wr 28 0 t x) = some (1, wr') ∧ R wc' wr' ∧ FC wc wc' ∧ FR wr wr' := by
  obtain ⟨wc', c1, c2, c3, c4, c5⟩ := becomes_c ht x (nI n) wc
  have tt : tn (nI t) = t := nI_clamp (by omega)
  obtain ⟨wr', r1, r2, r3⟩ := zero_r ht (fun w10 => some (1, w10)) (up (up wr 28 0 t x) 29 0 t (nI n)) 40 0 FU (up (up wr 28 0 t x) 29 0 t (nI n)) rfl (by show 40 < 1000000; omega) (fun j hj => by omega) (fun _ _ _ _ => rfl)
  rw [show nI 0 = 0 from rfl] at r1
  have e28 : ∀ s, wr' 28 0 s = if s = t then x else wr 28 0 s := by
    intro s
    rw [r3 28 0 s (by omega)]
    by_cases h : s = t
    · subst h; simp [up]
    · simp [up, h]
  have e29 : ∀ s, wr' 29 0 s = if s = t then nI n else wr 29 0 s := by
    intro s
    rw [r3 29 0 s (by omega)]
    by_cases h : s = t
    · subst h; simp [up]
    · simp [up, h]
  have eo : ∀ a b c, a ≠ 28 → a ≠ 29 → a ≠ 30 → wr' a b c = wr a b c := fun a b c h1 h2 h3 => by
    rw [r3 a b c (by omega), up_k h2, up_k h1]
  refine ⟨wc', wr', c1, ?_, R.of hB hT hP hI (hS.new ht hn (by rw [c2, e28, if_pos rfl]) c3 (by rw [e29, if_pos rfl]) (fun k hk => by rw [c4 k hk, r2 k hk]) c5 (fun s hs => by rw [e28, if_neg hs]) (fun s hs => by rw [e29, if_neg hs]) (fun s k hs hk => ?_)) (fun a b c ha _ => c5 a b c (by omega)) (fun a b c ha => c5 a b c (by omega)) (c5 1 0 1 (by omega)) (fun c _ => eo 5 0 c (by omega) (by omega) (by omega)) (fun c _ => eo 22 0 c (by omega) (by omega) (by omega)) (fun a c ha => eo a 0 c (by omega) (by omega) (by omega)), fun a b c ha => c5 a b c (by omega), fun a b c ha => eo a b c (by omega) (by omega) (by omega)⟩
  · unfold j_X5_sheet_66
    rw [if_pos (nI_in ht (by omega)), tt, r1]
  · rw [r3 30 0 _ (by omega), up_k (by decide), up_k (by decide)]
theorem b_sheet (a1 a2 a3 : Int32) : Both (f_X4_sheet a1 a2 a3) (f_X5_sheet a1 a2 a3) := by
  intro wc wr hR
  obtain ⟨N, M, CC, hB, hT, hS, hP, hI⟩ := id hR
  show Out wc wr _ _
  unfold f_X4_sheet f_X5_sheet
  rcases row_cases a1 with ⟨h1, h2⟩ | ⟨s, hs, rfl, h1, h2, h3, h4⟩
  · rw [h1, if_pos h2, oe_n]; exact .same hR _
  · rw [h1, if_neg h2, oe_s]
    unfold j_X5_sheet_32 j_X5_sheet_44
    rw [if_pos h3, h4]
    by_cases h : -1 ≤ a2 ∧ a2 ≤ 2
    · rw [if_neg (Int32.not_lt.mpr h.1), if_pos h.2, if_neg (fun z => rng_0.mp z h)]
      by_cases hm : a2 = -1
      · subst hm
        rw [if_pos rfl, if_pos rfl, if_pos rfl, if_pos rfl]
        obtain ⟨wc', wr', c1, r1, hR', fc, fr⟩ := sheet_both (n := 0) hB hT hP hI hS hs (by omega) (-1)
        rw [show nI 0 = 0 from rfl] at c1 r1
        rw [c1, ob, r1]
        exact ⟨_, _, _, rfl, rfl, hR', fc, fr⟩
      · rw [if_neg hm, if_neg hm, if_neg hm, if_neg hm]
        by_cases h40 : a3 ≤ 40
        · rw [if_pos h40, if_pos h40]
          by_cases h0 : a3 < 0
          · rw [if_pos h0, if_pos h0]; exact .same hR _
          · obtain ⟨n, hn, rfl⟩ := nI_of2 (M := 40) (n := 40) rfl h0 h40
            rw [if_neg h0, if_neg h0]
            obtain ⟨wc', wr', c1, r1, hR', fc, fr⟩ := sheet_both (n := n) hB hT hP hI hS hs hn a2
            rw [c1, ob, r1]
            exact ⟨_, _, _, rfl, rfl, hR', fc, fr⟩
        · rw [if_neg h40, if_neg h40]; exact .same hR _
    · rw [if_pos (rng_0.mpr h)]
      by_cases h5 : a2 < -1
      · rw [if_pos h5]; exact .same hR _
      · rw [if_neg h5, if_neg (fun z => h ⟨Int32.not_lt.mp h5, z⟩)]; exact .same hR _
theorem cell_both {N M t k : Nat} {CC : Nat → Nat → List Int32} {wc wr : Mem} (hB : Bo 0 N M CC wc wr) (hT : TB (wr 5 0 5)) (hP : PR wc wr) (hI : IR N M wc wr) (hS : SR wc wr) (ht : t < 4) (hk : k < 40) (v : Int32) : Out wc wr (some ((1 : Int32), setV wc 19 t (nI k) v)) (some (1, up wr 30 0 (40 * t + k) v)) := by
  rw [setV_n wc t v (show k < lenK 19 from hk) (by decide)]
  obtain ⟨h1, h2, ⟨n, hn, h3⟩, h4⟩ := hS t ht
  refine ⟨1, _, _, rfl, rfl, R.of hB hT hP hI (hS.new (n := n) ht hn ?_ ?_ ?_ (fun j hj => ?_) (fun a b c h => up_n (fun z => h ⟨z.2.1, Or.inr z.1⟩)) (fun s _ => up_k (by decide)) (fun s _ => up_k (by decide)) (fun s j hs hj => up_j (by omega))) (fun a b c ha _ => up_k (by omega)) (fun a b c ha => up_k (by omega)) (up_k (by decide)) (fun c _ => up_k (by decide)) (fun c _ => up_k (by decide)) (fun a c ha => up_k (by omega)), FC.rf.up (by omega), FR.rf.up (by omega)⟩
  · rw [up_k (by decide), up_k (by decide)]; exact h1
  · rw [up_k (by decide)]; exact h2.trans h3
  · rw [up_k (by decide)]; exact h3
  · by_cases e : j = k
    · subst e; rw [up_s, up_s]
    · rw [up_j e, up_j (by omega)]; exact h4 j hj
theorem one_has40 {x : Int32} {n : Nat} (hn : n ≤ 40) : (rng x 0 (nI n - 1) = 0 ∧ (x < 0 ∨ ¬ x < nI n)) ∨ ∃ k, k < n ∧ x = nI k ∧ ¬ rng x 0 (nI n - 1) = 0 ∧ ¬ x < 0 ∧ x < nI n := by
  have e : (nI n - 1).toInt = (n : Int) - 1 := by rw [show (1 : Int32) = nI 1 from rfl]; exact pk_sub_toInt (b := 1) (by omega) (by omega)
  by_cases h : 0 ≤ x ∧ x < nI n
  · obtain ⟨k, hk, rfl⟩ := nI_of (Int32.not_lt.mpr h.1)
    have hkn := (nI_ltI hk (by omega)).mp h.2
    refine Or.inr ⟨k, hkn, rfl, fun z => rng_0.mp z ⟨h.1, ?_⟩, Int32.not_lt.mpr h.1, h.2⟩
    rw [Int32.le_iff_toInt_le, e, nI_toInt (by omega)]; omega
  · refine Or.inl ⟨rng_0.mpr (fun z => h ⟨z.1, ?_⟩), ?_⟩
    · have := Int32.le_iff_toInt_le.mp z.2
      rw [Int32.lt_iff_toInt_lt, nI_toInt (by omega)]; omega
    · by_cases h1 : x < 0
      · exact Or.inl h1
      · exact Or.inr (fun z => h ⟨Int32.not_lt.mp h1, z⟩)
theorem b_cell (a1 a2 a3 : Int32) : Both (f_X4_cell a1 a2 a3) (f_X5_cell a1 a2 a3) := by
  intro wc wr hR
  obtain ⟨N, M, CC, hB, hT, hS, hP, hI⟩ := id hR
  show Out wc wr _ _
  unfold f_X4_cell f_X5_cell
  rcases row_cases a1 with ⟨h1, h2⟩ | ⟨s, hs, rfl, h1, h2, h3, h4⟩
  · rw [h1, if_pos h2, oe_n]; exact .same hR _
  · obtain ⟨g1, g2, ⟨n, hn, g3⟩, g4⟩ := hS s hs
    rw [h1, if_neg h2, oe_s, if_pos h3, if_pos h3, if_pos h3, if_pos h3, h4, g1, g2, g3]
    by_cases hm : wr 28 0 s = -1
    · rw [if_pos hm, if_pos hm]; exact .same hR _
    · rw [if_neg hm, if_neg hm]
      rcases one_has40 (x := a2) hn with ⟨e1, e2⟩ | ⟨k, hk, rfl, e1, e2, e3⟩
      · rw [if_pos e1]
        rcases e2 with e2 | e2
        · rw [if_pos e2]; exact .same hR _
        · by_cases e3 : a2 < 0
          · rw [if_pos e3]; exact .same hR _
          · rw [if_neg e3, if_neg e2]; exact .same hR _
      · have im : inB (nI (40 * s + k)) 160 := nI_in (by omega) (by omega)
        have tm : tn (nI (40 * s + k)) = 40 * s + k := nI_clamp (by omega)
        rw [if_neg e1, if_neg e2, if_pos e3, m40, if_pos im, if_pos im, if_pos im, tm]
        unfold f_X2_write
        rw [g1]
        by_cases h0 : wr 28 0 s = 0
        · rw [if_pos h0, if_pos h0, ob]; exact cell_both hB hT hP hI hS hs (by omega) _
        · rw [if_neg h0, if_neg h0]
          by_cases h1 : wr 28 0 s = 1
          · rw [if_pos h1, if_pos h1, ob]; exact cell_both hB hT hP hI hS hs (by omega) _
          · rw [if_neg h1, if_neg h1, ob]; exact cell_both hB hT hP hI hS hs (by omega) _
