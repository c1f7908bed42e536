/-! a season: both sides -/
theorem wi_thing {t : Nat} (h : t < 16) : wiF (nI t) 0 15 = nI t := by
  unfold wiF
  rw [if_neg (nI_pos (by omega)), if_neg (show ¬ 15 < nI t from nI_nlt (a := 15) (b := t) (by omega) (by omega))]
theorem neg1_lt {v : Int32} (h : v = -1 ∨ ∃ q, q < 16 ∧ v = nI q) : v < 0 ↔ v = -1 := by
  rcases h with rfl | ⟨q, hq, rfl⟩
  · exact ⟨fun _ => rfl, fun _ => by decide⟩
  · exact ⟨fun z => absurd z (nI_pos (by omega)), fun z => absurd (show nI q < 0 by rw [z]; decide) (nI_pos (by omega))⟩
theorem goes_loop {i N M s Z p : Nat} {CC : Nat → Nat → List Int32} (hs : s < 4) (hP : p < N) (kc : Int32 → Mem → Option (Int32 × Mem)) (kr : Mem → Option Mem) : ∀ (r k n : Nat) (wc wr : Mem), k + r = Z → r < n → Bo i N M CC wc wr → SR wc wr → Sn s Z wr → ∃ (wc' wr' : Mem), h_X4_goes_24 i s (nI p) kc n (wr 5 0 31) (nI k) wc = kc (wr' 5 0 31) wc' ∧ h_X5_goes_7 (nI s) (nI p) kr n (nI k) wr = kr wr' ∧ Bo i N M CC wc' wr' ∧ ThC i wc wc' ∧ ThS wr wr' ∧ wr' 5 0 5 = wr 5 0 5 + nI r := by
  have ts : tn (nI s) = s := nI_clamp (by omega)
  intro r
  induction r with
  | zero =>
    intro k n wc wr hk hn hB hS hZ
    obtain ⟨n, rfl⟩ : ∃ m, n = m + 1 := ⟨n - 1, by omega⟩
    have hZ40 := hZ.1
    have e1 : wc 2 s 1 = nI Z := (hS s hs).2.1.trans hZ.2.1
    refine ⟨wc, wr, ?_, ?_, hB, .rf, .rf, (Int32.add_zero _).symm⟩
    · unfold h_X4_goes_24
      rw [e1, if_neg (nI_nlt (by omega) (by omega))]
    · unfold h_X5_goes_7
      rw [if_pos (nI_in hs (by omega)), ts, hZ.2.1, if_neg (nI_nlt (by omega) (by omega))]
  | succ r ih =>
    intro k n wc wr hk hn hB hS hZ
    obtain ⟨n, rfl⟩ : ∃ m, n = m + 1 := ⟨n - 1, by omega⟩
    have hZ40 := hZ.1
    obtain ⟨g1, g2, -, g4⟩ := hS s hs
    have e1 : wc 2 s 1 = nI Z := g2.trans hZ.2.1
    have tk : tn (nI (40 * s + k)) = 40 * s + k := nI_clamp (by omega)
    have e19 : atV wc 19 s (nI k) = wr 30 0 (40 * s + k) := (atV_n wc s (show k < lenK 19 by show k < 40; omega) (by decide)).trans (g4 k (by omega))
    obtain ⟨t, ht, et⟩ := hZ.2.2 k (by omega)
    unfold h_X4_goes_24 h_X5_goes_7
    rw [e1, if_pos (nI_lt (by omega) (by omega)), if_pos (nI_in hs (by omega)), ts, hZ.2.1, if_pos (nI_lt (by omega) (by omega)), m40, if_pos (nI_in (by omega) (by omega)), tk, e19, et, wi_thing ht]
    obtain ⟨v, wc1, wr1, c1, r1, hB1, tc1, tr1, q5, hv⟩ := landing_both hB hP ht
    rw [c1, r1, ob, ob]
    dsimp only
    have q31 : wr1 5 0 31 = wr 5 0 31 := tr1 5 0 31 (by omega) (by omega) (by omega) (by omega)
    rw [q31]
    have key : ∀ d : Int32, ∃ (wc' wr' : Mem), j_X4_goes_55 i s (h_X4_goes_24 i s (nI p) kc n) (nI p) (wr 5 0 31 + d) (nI k) wc1 = kc (wr' 5 0 31) wc' ∧ j_X5_goes_57 (h_X5_goes_7 (nI s) (nI p) kr n) (nI s) (nI p) (nI k) d (wr 5 0 31) wr1 = kr wr' ∧ Bo i N M CC wc' wr' ∧ ThC i wc wc' ∧ ThS wr wr' ∧ wr' 5 0 5 = wr 5 0 5 + nI (r + 1) := by
      intro d
      obtain ⟨u, wc2, wr2, c2, r2, hB2, tc2, tr2, q6, -⟩ := washes_both (hB1.s (c0 := 31) (v := wr 5 0 31 + d) (by omega))
      have ts2 : ThS wr wr2 := (tr1.s.up (by omega)).tr tr2.s
      have tcc : ThC i wc wc2 := tc1.tr tc2
      have e31 : wr2 5 0 31 = wr 5 0 31 + d := (tr2 5 0 31 (by omega) (by omega) (by omega) (by omega)).trans (up_s _ _ _ _ _)
      have q55 : wr2 5 0 5 = wr 5 0 5 + 1 := by rw [q6, up_j (by decide), q5]
      obtain ⟨wc3, wr3, a1, a2, a3, a4, a5, a6⟩ := ih (k + 1) n wc2 wr2 (by omega) (by omega) hB2 (hS.th tcc ts2) (hZ.th ts2)
      refine ⟨wc3, wr3, ?_, ?_, a3, tcc.tr a4, ts2.tr a5, ?_⟩
      · unfold j_X4_goes_55
        rw [c2, ob, nI_1]
        dsimp only
        rw [← e31]
        exact a1
      · unfold j_X5_goes_57
        rw [r2, ob, nI_1]
        exact a2
      · rw [a6, q55, Int32.add_assoc, show (1 : Int32) = nI 1 from rfl, nI_add, Nat.add_comm 1 r]
    by_cases hneg : v = -1
    · rw [if_pos ((neg1_lt hv).mpr hneg), if_pos hneg]
      exact key 1
    · rw [if_neg (fun z => hneg ((neg1_lt hv).mp z)), if_neg hneg]
      have := key 0
      rw [Int32.add_zero] at this
      exact this
theorem goes_both {i N M s Z p : Nat} {CC : Nat → Nat → List Int32} {wc wr : Mem} (hs : s < 4) (hP : p < N) (hB : Bo i N M CC wc wr) (hS : SR wc wr) (hZ : Sn s Z wr) : ∃ (v : Int32) (wc' wr' : Mem), f_X4_goes i (nI s) (nI p) wc = some (v, wc') ∧ f_X5_goes (nI s) (nI p) wr = some wr' ∧ wr' 5 0 31 = v ∧ Bo i N M CC wc' wr' ∧ ThC i wc wc' ∧ ThS wr wr' ∧ wr' 5 0 5 = wr 5 0 5 + nI Z := by
  have t1 : ThS wr (up wr 5 0 31 0) := ThS.rf.up (by omega)
  obtain ⟨wc', wr', a1, a2, a3, a4, a5, a6⟩ := goes_loop hs hP (fun x5_6 w7 => some (x5_6, w7)) (fun w7 => some w7) Z 0 FU wc (up wr 5 0 31 0) (by omega) (by show Z < 1000000; have := hZ.1; omega) (hB.s (by omega)) (hS.th (i := 1) .rf t1) (hZ.th t1)
  rw [up_s] at a1
  refine ⟨_, wc', wr', ?_, a2, rfl, a3, a4, t1.tr a5, a6⟩
  unfold f_X4_goes
  rw [rowF_n hs]
  exact a1
theorem rng_04 {x : Int32} : (rng x 0 4 = 0 ∧ (x < 0 ∨ ¬ x ≤ 4)) ∨ ∃ t, t < 5 ∧ x = nI t ∧ ¬ rng x 0 4 = 0 ∧ ¬ x < 0 ∧ x ≤ 4 := by
  by_cases h : 0 ≤ x ∧ x ≤ 4
  · obtain ⟨t, ht, rfl⟩ := nI_of2 (M := 4) (n := 4) rfl (Int32.not_lt.mpr h.1) h.2
    exact Or.inr ⟨t, by omega, rfl, fun z => rng_0.mp z h, Int32.not_lt.mpr h.1, h.2⟩
  · refine Or.inl ⟨rng_0.mpr h, ?_⟩
    by_cases h1 : x < 0
    · exact Or.inl h1
    · exact Or.inr (fun z => h ⟨Int32.not_lt.mp h1, z⟩)
theorem swE_0 {ρ : Type} (x : Int32) (a b c d z : Option ρ) : swE x 0 [a, b, c, d] z = if x = 0 then a else if x = 1 then b else if x = 2 then c else if x = 3 then d else z := rfl
theorem b_season (a1 a2 a3 : Int32) : Both (f_X4_season a1 a2 a3) (f_X5_season a1 a2 a3) := by
  intro wc wr hR
  obtain ⟨N, M, CC, hB, hT, hS, hP, hI⟩ := id hR
  obtain ⟨v, e1, e2, e3⟩ := season_ref hB hS a1 a2
  unfold f_X4_season f_X5_season
  rw [e1, e2, ob, ob]
  dsimp only
  by_cases hv : v = 0
  · obtain ⟨s, Z, p, hs, rfl, hZ, hp, rfl⟩ := e3 hv
    rw [if_pos hv, if_pos hv]
    rcases rng_04 (x := a3) with ⟨h0, h1⟩ | ⟨t, ht, e, h0, h1, h2⟩
    · rw [if_pos h0]
      refine ⟨-7, wc, wr, ?_, rfl, hR, .rf, .rf⟩
      rcases h1 with h1 | h1
      · rw [if_pos h1]
      · rw [if_neg h1]; split <;> rfl
    · rw [if_neg h0, if_neg h1, if_pos h2]
      obtain ⟨wc1, c1, as1⟩ := become_c (i := 1) (j := 0) (by decide) wc
      obtain ⟨wr1, r1, kp1⟩ := keeps_r wr
      have hB1 : Bo 1 N M CC wc1 wr1 := Kp.bo (hB.as as1) kp1
      have hS1 : SR wc1 wr1 := hS.q as1.2.2.th.q kp1.q
      have hZ1 : Sn s Z wr1 := ⟨hZ.1, (kp1.2.2.2 29 0 s (by decide)).trans hZ.2.1, fun j hj => by rw [kp1.2.2.2 30 0 _ (by decide)]; exact hZ.2.2 j hj⟩
      obtain ⟨u, wc2, wr2, c2, r2, g31, hB2, tc2, ts2, -⟩ := goes_both hs hp hB1 hS1 hZ1
      obtain ⟨wr3, r3, q3, f3, -⟩ := lays_r kp1 ts2
      rw [c1, r1, ob, ob, c2, r2, ob, ob]
      dsimp only
      obtain ⟨g1, g2, g3, g4, g5, g6, g7, g8⟩ := hB2.1
      obtain ⟨k1, k2, k3, k4, k5, k6, k7, k8, k9⟩ := g8 p hp
      have hp6 : p < 6 := by omega
      have e15 : atV wc2 15 1 (nI p) = wr2 22 0 (3 * p) := (atV_n wc2 1 hp6 (by decide)).trans k3
      have e16 : atV wc2 16 1 (nI p) = wr2 22 0 (3 * p + 1) := (atV_n wc2 1 hp6 (by decide)).trans k4
      have e17 : atV wc2 17 1 (nI p) = wr2 22 0 (3 * p + 2) := (atV_n wc2 1 hp6 (by decide)).trans k5
      have i0 : inB (nI (3 * p)) 18 := nI_in (by omega) (by omega)
      have i1 : inB (nI (3 * p + 1)) 18 := nI_in (by omega) (by omega)
      have i2 : inB (nI (3 * p + 2)) 18 := nI_in (by omega) (by omega)
      have t0 : tn (nI (3 * p)) = 3 * p := nI_clamp (by omega)
      have t1 : tn (nI (3 * p + 1)) = 3 * p + 1 := nI_clamp (by omega)
      have t2 : tn (nI (3 * p + 2)) = 3 * p + 2 := nI_clamp (by omega)
      unfold f_X0_nameless
      rw [e15, e16, e17, g4, r3, m31, m32, m3, if_pos i0, if_pos i1, if_pos i2, if_pos i0, t0, t1, t2, g31, k6.bc]
      simp only [ob]
      have hR3 : R wc2 wr3 := hR.q (as1.2.2.th.q.tr tc2.q) q3
      have fc : FC wc wc2 := (as1.2.2.th.f).tr tc2.f
      have fr : FR wr wr3 := (kp1.f.tr ts2.f).tr f3
      rw [swE_0, swE_0]
      by_cases h0 : a3 = 0
      · rw [if_pos h0, if_pos h0]; exact ⟨_, _, _, rfl, rfl, hR3, fc, fr⟩
      · rw [if_neg h0, if_neg h0]
        by_cases h1 : a3 = 1
        · rw [if_pos h1, if_pos h1]; exact ⟨_, _, _, rfl, rfl, hR3, fc, fr⟩
        · rw [if_neg h1, if_neg h1]
          by_cases h2 : a3 = 2
          · rw [if_pos h2, if_pos h2]; exact ⟨_, _, _, rfl, rfl, hR3, fc, fr⟩
          · rw [if_neg h2, if_neg h2]
            by_cases h3 : a3 = 3
            · rw [if_pos h3, if_pos h3]; exact ⟨_, _, _, rfl, rfl, hR3, fc, fr⟩
            · rw [if_neg h3, if_neg h3]; exact ⟨_, _, _, rfl, rfl, hR3, fc, fr⟩
  · rw [if_neg hv, if_neg hv]
    exact ⟨v, wc, wr, rfl, rfl, hR, .rf, .rf⟩
