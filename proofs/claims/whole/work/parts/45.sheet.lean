/-! sheets that tell seasons; what is refused -/
theorem SR.th {i : Nat} {wc wr wc' wr' : Mem} (h : SR wc wr) (hc : ThC i wc wc') (hr : ThS wr wr') : SR wc' wr' := by
  intro s hs
  rw [hc 2 s 0 (by omega) (by omega) (by omega), hc 2 s 1 (by omega) (by omega) (by omega), hr 28 0 s (by omega) (by omega) (by omega) (by omega), hr 29 0 s (by omega) (by omega) (by omega) (by omega)]
  obtain ⟨h1, h2, h3, h4⟩ := h s hs
  exact ⟨h1, h2, h3, fun k hk => by rw [hc 19 s k (by omega) (by omega) (by omega), hr 30 0 _ (by omega) (by omega) (by omega) (by omega)]; exact h4 k hk⟩
/-- a sheet that tells a season -/
def Sn (s Z : Nat) (wr : Mem) : Prop := Z ≤ 40 ∧ wr 29 0 s = nI Z ∧ ∀ j, j < Z → ∃ t, t < 16 ∧ wr 30 0 (40 * s + j) = nI t
theorem Sn.th {s Z : Nat} {wr wr' : Mem} (h : Sn s Z wr) (hr : ThS wr wr') : Sn s Z wr' :=
  ⟨h.1, (hr 29 0 s (by omega) (by omega) (by omega) (by omega)).trans h.2.1, fun j hj => by rw [hr 30 0 _ (by omega) (by omega) (by omega) (by omega)]; exact h.2.2 j hj⟩
theorem row_cases (x : Int32) : (rowF x = none ∧ rng x 0 3 = 0) ∨ ∃ s, s < 4 ∧ x = nI s ∧ rowF x = some s ∧ ¬ rng x 0 3 = 0 ∧ inB x 4 ∧ tn x = s := by
  rcases pk_ix x (n := 4) (by omega) with h | h | ⟨j, hj, rfl⟩
  · refine Or.inl ⟨if_neg (Int32.not_le.mpr h), rng_0.mpr (fun z => absurd z.1 (Int32.not_le.mpr h))⟩
  · refine Or.inl ⟨?_, rng_0.mpr (fun z => absurd (Int32.le_trans h z.2) (by decide))⟩
    unfold rowF
    split
    · rw [if_neg (show ¬ x < 4 from Int32.not_lt.mpr h)]
    · rfl
  · have h1 : tn (nI j) = j := nI_clamp (by omega)
    refine Or.inr ⟨j, hj, rfl, ?_, fun z => rng_0.mp z ⟨nI_pos' (by omega), nI_le (a := j) (b := 3) (by omega) (by omega)⟩, nI_in hj (by omega), h1⟩
    unfold rowF
    rw [if_pos (nI_pos' (by omega)), if_pos (show nI j < 4 from nI_lt (a := j) (b := 4) hj (by omega)), h1]
theorem rowF_n {s : Nat} (h : s < 4) : rowF (nI s) = some s := by
  unfold rowF
  rw [if_pos (nI_pos' (by omega)), if_pos (show nI s < 4 from nI_lt (a := s) (b := 4) h (by omega)), show tn (nI s) = s from nI_clamp (by omega)]
theorem m40 (s k : Nat) : 40 * nI s + nI k = nI (40 * s + k) := by rw [show (40 : Int32) = nI 40 from rfl, nI_mul, nI_add]
theorem rng_thing {x : Int32} : (rng x 0 15 = 0 ∧ ¬ (0 ≤ x ∧ x ≤ 15)) ∨ ∃ t, t < 16 ∧ x = nI t ∧ ¬ rng x 0 15 = 0 := by
  by_cases h : 0 ≤ x ∧ x ≤ 15
  · obtain ⟨t, ht, rfl⟩ := nI_of2 (M := 15) (n := 15) rfl (Int32.not_lt.mpr h.1) h.2
    exact Or.inr ⟨t, by omega, rfl, fun z => rng_0.mp z h⟩
  · exact Or.inl ⟨rng_0.mpr h, h⟩
theorem tells_loop {s Z : Nat} {wc wr : Mem} (h : SR wc wr) (hs : s < 4) (hZ : Z ≤ 40) (h29 : wr 29 0 s = nI Z) : ∀ r k n, k + r = Z → r < n → (h_X2_tellsThings_2 s (fun w3 => some (1, w3)) n (nI k) wc = some (1, wc) ∧ h_X5_seasonWrong_27 (nI s) (fun w8 => some (0, w8)) n (nI k) wr = some (0, wr) ∧ ∀ j, k ≤ j → j < Z → ∃ t, t < 16 ∧ wr 30 0 (40 * s + j) = nI t) ∨ (h_X2_tellsThings_2 s (fun w3 => some (1, w3)) n (nI k) wc = some (0, wc) ∧ h_X5_seasonWrong_27 (nI s) (fun w8 => some (0, w8)) n (nI k) wr = some (-2, wr)) := by
  obtain ⟨g1, g2, -, g4⟩ := h s hs
  have e1 : wc 2 s 1 = nI Z := g2.trans h29
  have ts : tn (nI s) = s := nI_clamp (by omega)
  intro r
  induction r with
  | zero =>
    intro k n hk hn
    obtain ⟨n, rfl⟩ : ∃ m, n = m + 1 := ⟨n - 1, by omega⟩
    refine Or.inl ⟨?_, ?_, fun j h1 h2 => by omega⟩
    · unfold h_X2_tellsThings_2
      rw [e1, if_neg (nI_nlt (by omega) (by omega))]
    · unfold h_X5_seasonWrong_27
      rw [if_pos (nI_in hs (by omega)), ts, h29, if_neg (nI_nlt (by omega) (by omega))]
  | succ r ih =>
    intro k n hk hn
    obtain ⟨n, rfl⟩ : ∃ m, n = m + 1 := ⟨n - 1, by omega⟩
    have tk : tn (nI (40 * s + k)) = 40 * s + k := nI_clamp (by omega)
    have e19 : atV wc 19 s (nI k) = wr 30 0 (40 * s + k) := (atV_n wc s (show k < lenK 19 by show k < 40; omega) (by decide)).trans (g4 k (by omega))
    unfold h_X2_tellsThings_2 h_X5_seasonWrong_27
    rw [e1, if_pos (nI_lt (by omega) (by omega)), if_pos (nI_in hs (by omega)), ts, h29, if_pos (nI_lt (by omega) (by omega)), m40, if_pos (nI_in (by omega) (by omega)), tk, e19]
    rcases rng_thing (x := wr 30 0 (40 * s + k)) with ⟨h0, -⟩ | ⟨t, ht, e, h1⟩
    · rw [if_pos h0, if_pos h0]
      exact Or.inr ⟨rfl, rfl⟩
    · rw [if_neg h1, if_neg h1, nI_1]
      rcases ih (k + 1) n (by omega) (by omega) with ⟨a1, a2, a3⟩ | a
      · refine Or.inl ⟨a1, a2, fun j h1 h2 => ?_⟩
        by_cases hj : j = k
        · subst hj; exact ⟨t, ht, e⟩
        · exact a3 j (by omega) h2
      · exact Or.inr a
/-- a season that a sheet tells: what is refused -/
theorem row_both {wc wr : Mem} (h : SR wc wr) (x : Int32) : ∃ v, f_X4_refusedRow x wc = some (v, wc) ∧ f_X5_seasonWrong x wr = some (v, wr) ∧ (v = 0 → ∃ s Z, s < 4 ∧ x = nI s ∧ Sn s Z wr) := by
  unfold f_X4_refusedRow f_X5_seasonWrong
  rcases row_cases x with ⟨h1, h2⟩ | ⟨s, hs, rfl, h1, h2, h3, h4⟩
  · rw [h1, if_pos h2]
    exact ⟨-2, rfl, rfl, fun z => absurd z (by decide)⟩
  · rw [h1, if_neg h2, if_pos h3, h4]
    obtain ⟨g1, g2, ⟨Z, hZ, g3⟩, g4⟩ := h s hs
    dsimp only [Option.elim]
    rw [g1]
    by_cases hm : wr 28 0 s = -1
    · rw [if_pos hm, if_pos hm]
      exact ⟨-11, rfl, rfl, fun z => absurd z (by decide)⟩
    · rw [if_neg hm, if_neg hm]
      unfold f_X2_tellsThings
      rcases tells_loop h hs hZ g3 Z 0 FU (by omega) (by show Z < 1000000; omega) with ⟨a1, a2, a3⟩ | ⟨a1, a2⟩
      · rw [show nI 0 = 0 from rfl] at a1 a2
        rw [a1, a2]
        exact ⟨0, rfl, rfl, fun _ => ⟨s, Z, hs, rfl, hZ, g3, fun j hj => a3 j (by omega) hj⟩⟩
      · rw [show nI 0 = 0 from rfl] at a1 a2
        rw [a1, a2]
        exact ⟨-2, rfl, rfl, fun z => absurd z (by decide)⟩
theorem has_both {i N M : Nat} {CC : Nat → Nat → List Int32} {wc wr : Mem} (h : Bo i N M CC wc wr) (x : Int32) : (hasF x (wc 0 i 2) = 0 ∧ rng x 0 (wr 5 0 0 - 1) = 0) ∨ ∃ p, p < N ∧ x = nI p ∧ ¬ hasF x (wc 0 i 2) = 0 ∧ ¬ rng x 0 (wr 5 0 0 - 1) = 0 := by
  obtain ⟨g1, g2, g3, -⟩ := h.1
  rw [g2, g3, one_has g1]
  by_cases h0 : hasF x (nI N) = 0
  · exact Or.inl ⟨h0, h0⟩
  · obtain ⟨p, hp, e⟩ := has_of g1 h0
    exact Or.inr ⟨p, hp, e, h0, h0⟩
theorem season_ref {N M : Nat} {CC : Nat → Nat → List Int32} {wc wr : Mem} (hB : Bo 0 N M CC wc wr) (h : SR wc wr) (x y : Int32) : ∃ v, f_X4_refusedSeason x y wc = some (v, wc) ∧ f_X5_oneWrong x y wr = some (v, wr) ∧ (v = 0 → ∃ s Z p, s < 4 ∧ x = nI s ∧ Sn s Z wr ∧ p < N ∧ y = nI p) := by
  obtain ⟨v, h1, h2, h3⟩ := row_both h x
  unfold f_X4_refusedSeason f_X5_oneWrong
  rw [h1, h2]
  dsimp only [Option.bind]
  by_cases hv : v = 0
  · obtain ⟨s, Z, hs, e, hn⟩ := h3 hv
    rw [if_pos hv, if_pos hv]
    rcases has_both hB y with ⟨a1, a2⟩ | ⟨p, hp, e2, a1, a2⟩
    · rw [if_pos a1, if_pos a2]
      exact ⟨-5, rfl, rfl, fun z => absurd z (by decide)⟩
    · rw [if_neg a1, if_neg a2]
      exact ⟨0, rfl, rfl, fun _ => ⟨s, Z, p, hs, e, hn, hp, e2⟩⟩
  · rw [if_neg hv, if_neg hv]
    exact ⟨v, rfl, rfl, fun z => absurd z hv⟩
theorem two_ref {wc wr : Mem} (h : SR wc wr) (x y : Int32) : ∃ v, f_X4_refusedTelling x y wc = some (v, wc) ∧ f_X5_twoWrong x y wr = some (v, wr) ∧ (v = 0 → ∃ s Z t Y, s < 4 ∧ x = nI s ∧ Sn s Z wr ∧ t < 4 ∧ y = nI t ∧ Y ≤ Z ∧ wr 29 0 t = nI Y) := by
  unfold f_X4_refusedTelling f_X5_twoWrong
  rcases row_cases y with ⟨h1, h2⟩ | ⟨t, ht, rfl, h1, h2, h3, h4⟩
  · rw [h1, if_pos h2]
    exact ⟨-2, rfl, rfl, fun z => absurd z (by decide)⟩
  · rw [h1, if_neg h2, h4]
    obtain ⟨v, a1, a2, a3⟩ := row_both h x
    rw [a1, a2, oe_s, ob, ob]
    dsimp only
    by_cases hv : v = 0
    · rw [if_pos hv, if_pos hv, if_pos h3, if_pos h3]
      obtain ⟨s, Z, hs, rfl, hn⟩ := a3 hv
      obtain ⟨g1, g2, ⟨Y, hY, g3⟩, g4⟩ := h t ht
      obtain ⟨f1, f2, -, -⟩ := h s hs
      by_cases hm : wr 28 0 t = -1
      · rw [if_pos (g1.trans hm), if_pos hm]
        exact ⟨-11, rfl, rfl, fun z => absurd z (by decide)⟩
      · have e1 : rowF (nI s) = some s := rowF_n hs
        have e2 : f_X4_sizeOf (nI s) wc = some (wr 29 0 s, wc) := by
          unfold f_X4_sizeOf
          rw [e1]
          dsimp only [Option.elim]
          rw [f2]
        rw [if_neg (fun z => hm (g1.symm.trans z)), if_neg hm, e2, if_pos (nI_in hs (by omega)), ob, show tn (nI s) = s from nI_clamp (by omega)]
        dsimp only
        by_cases hle : wr 29 0 t ≤ wr 29 0 s
        · rw [if_pos (show wc 2 t 1 ≤ wr 29 0 s by rw [g2]; exact hle), if_pos hle]
          refine ⟨0, rfl, rfl, fun _ => ⟨s, Z, t, Y, hs, rfl, hn, ht, rfl, ?_, g3⟩⟩
          rw [g3, hn.2.1] at hle
          have := hn.1
          exact (nI_leI (by omega) (by omega)).mp hle
        · rw [if_neg (show ¬ wc 2 t 1 ≤ wr 29 0 s by rw [g2]; exact hle), if_neg hle]
          exact ⟨-2, rfl, rfl, fun z => absurd z (by decide)⟩
    · rw [if_neg hv, if_neg hv]
      exact ⟨v, rfl, rfl, fun z => absurd z hv⟩
theorem told_ref {N M : Nat} {CC : Nat → Nat → List Int32} {wc wr : Mem} (hB : Bo 0 N M CC wc wr) (h : SR wc wr) (x y z : Int32) : ∃ v, f_X4_refusedTold x y z wc = some (v, wc) ∧ f_X5_toldWrong x y z wr = some (v, wr) ∧ (v = 0 → ∃ s Z t Y p, s < 4 ∧ x = nI s ∧ Sn s Z wr ∧ t < 4 ∧ y = nI t ∧ Y ≤ Z ∧ wr 29 0 t = nI Y ∧ p < N ∧ z = nI p) := by
  obtain ⟨v, h1, h2, h3⟩ := two_ref h x y
  unfold f_X4_refusedTold f_X5_toldWrong
  rw [h1, h2]
  dsimp only [Option.bind]
  by_cases hv : v = 0
  · obtain ⟨s, Z, t, Y, b1, b2, b3, b4, b5, b6, b7⟩ := h3 hv
    rw [if_pos hv, if_pos hv]
    rcases has_both hB z with ⟨a1, a2⟩ | ⟨p, hp, e2, a1, a2⟩
    · rw [if_pos a1, if_pos a2]
      exact ⟨-5, rfl, rfl, fun z => absurd z (by decide)⟩
    · rw [if_neg a1, if_neg a2]
      exact ⟨0, rfl, rfl, fun _ => ⟨s, Z, t, Y, p, b1, b2, b3, b4, b5, b6, b7, hp, e2⟩⟩
  · rw [if_neg hv, if_neg hv]
    exact ⟨v, rfl, rfl, fun z => absurd z hv⟩
