/-! seasons by a seed: both sides -/
theorem draws_loop {N M m : Nat} {CC : Nat → Nat → List Int32} (hm : m ≤ 60) (kr : Mem → Option (Int32 × Mem)) : ∀ (r k n L : Nat) (wc wr : Mem), k + r = m → r < n → L < 2147483647 → Bo 1 N M CC wc wr → ∃ (wc' wr' : Mem), h_X4_draws_19 (nI m) (fun w12 => some w12) n (lN L) (nI (k + 1)) wc = some wc' ∧ h_X5_lotSeasons_12 (nI m) kr n (lN L) (nI k) wr = kr wr' ∧ Bo 1 N M CC wc' wr' ∧ ThC 1 wc wc' ∧ ThS wr wr' := by
  intro r
  induction r with
  | zero =>
    intro k n L wc wr hk hn hL hB
    obtain ⟨n, rfl⟩ : ∃ m, n = m + 1 := ⟨n - 1, by omega⟩
    refine ⟨wc, wr, ?_, ?_, hB, .rf, .rf⟩
    · unfold h_X4_draws_19
      rw [if_neg (nI_ge (a := m) (b := k + 1) (by omega) (by omega))]
    · unfold h_X5_lotSeasons_12
      rw [if_neg (nI_nlt (by omega) (by omega))]
  | succ r ih =>
    intro k n L wc wr hk hn hL hB
    obtain ⟨n, rfl⟩ : ∃ m, n = m + 1 := ⟨n - 1, by omega⟩
    have hN := hB.1.1
    have g2 := hB.1.2.1
    have g3 := hB.1.2.2.1
    have e1 : rmL (lN L * 48271) 2147483647 = lN (L * 48271 % 2147483647) := by
      rw [show (48271 : Int64) = lN 48271 from rfl, lN_mul, show (2147483647 : Int64) = lN 2147483647 from rfl]
      exact pk_lRem (by omega) (by omega) (by omega)
    have hL1 := Nat.mod_lt (L * 48271) (show 0 < 2147483647 by omega)
    generalize L * 48271 % 2147483647 = L1 at e1 hL1
    have e2 : rmL (lN L1 * 48271) 2147483647 = lN (L1 * 48271 % 2147483647) := by
      rw [show (48271 : Int64) = lN 48271 from rfl, lN_mul, show (2147483647 : Int64) = lN 2147483647 from rfl]
      exact pk_lRem (by omega) (by omega) (by omega)
    have hL2 := Nat.mod_lt (L1 * 48271) (show 0 < 2147483647 by omega)
    generalize L1 * 48271 % 2147483647 = L2 at e2 hL2
    have e3 : Int64.toInt32 (rmL (lN L1) 6) = nI (L1 % 6) := by
      rw [show rmL (lN L1) 6 = lN (L1 % 6) from pk_lRem (b := 6) (by omega) (by omega) (by omega), lN_i]
    have e4 : Int64.toInt32 (rmL (lN L2) 16) = nI (L2 % 16) := by
      rw [show rmL (lN L2) 16 = lN (L2 % 16) from pk_lRem (b := 16) (by omega) (by omega) (by omega), lN_i]
    have e5 : wiF (nI (L1 % 6)) 0 5 = nI (L1 % 6) := by
      have := Nat.mod_lt L1 (show 0 < 6 by omega)
      unfold wiF
      rw [if_neg (nI_pos (by omega)), if_neg (show ¬ 5 < nI (L1 % 6) from nI_nlt (a := 5) (b := L1 % 6) (by omega) (by omega))]
    have h6 := Nat.mod_lt L1 (show 0 < 6 by omega)
    have h16 := Nat.mod_lt L2 (show 0 < 16 by omega)
    generalize L1 % 6 = p at e3 e5 h6
    generalize L2 % 16 = th at e4 h16
    have e6 : (rmI (nI (k + 1)) 3 = 0) ↔ (rmI (nI k) 3 = 2) := by
      rw [show rmI (nI (k + 1)) 3 = nI ((k + 1) % 3) from pk_rem (d := 3) (by omega) (by omega) (by omega), show rmI (nI k) 3 = nI (k % 3) from pk_rem (d := 3) (by omega) (by omega) (by omega), show (0 : Int32) = nI 0 from rfl, show (2 : Int32) = nI 2 from rfl, nI_eq (by omega) (by omega), nI_eq (by omega) (by omega)]
      omega
    have n3 : ¬ (3 : Int32) = 0 := by decide
    have key : ∀ (wc1 wr1 : Mem), Bo 1 N M CC wc1 wr1 → ∃ (wc' wr' : Mem), j_X4_draws_85 (h_X4_draws_19 (nI m) (fun w12 => some w12) n) (nI m) (lN L2) (nI (k + 1)) wc1 = some wc' ∧ j_X5_lotSeasons_73 (h_X5_lotSeasons_12 (nI m) kr n) (nI m) (lN L2) (nI k) wr1 = kr wr' ∧ Bo 1 N M CC wc' wr' ∧ ThC 1 wc1 wc' ∧ ThS wr1 wr' := by
      intro wc1 wr1 hB1
      unfold j_X4_draws_85 j_X5_lotSeasons_73
      rw [if_pos n3, if_pos n3, nI_1, nI_1]
      by_cases h : rmI (nI k) 3 = 2
      · obtain ⟨u, wc2, wr2, c2, r2, hB2, tc2, tr2, -⟩ := washes_both hB1
        rw [if_pos (e6.mpr h), if_pos h, c2, r2, ob, ob]
        obtain ⟨wc3, wr3, a1, a2, a3, a4, a5⟩ := ih (k + 1) n L2 wc2 wr2 (by omega) (by omega) hL2 hB2
        exact ⟨wc3, wr3, a1, a2, a3, tc2.tr a4, tr2.s.tr a5⟩
      · rw [if_neg (fun z => h (e6.mp z)), if_neg h]
        exact ih (k + 1) n L2 wc1 wr1 (by omega) (by omega) hL2 hB1
    unfold h_X4_draws_19 h_X5_lotSeasons_12
    rw [if_pos (nI_le (a := k + 1) (b := m) (by omega) (by omega)), if_pos (nI_lt (a := k) (b := m) (by omega) (by omega))]
    simp only [show ¬ (2147483647 : Int64) = 0 by decide, show ¬ (6 : Int64) = 0 by decide, show ¬ (16 : Int64) = 0 by decide, not_false_eq_true, if_true]
    rw [e1, e2, e3, e4, e5, g2, g3]
    by_cases hp : p < N
    · obtain ⟨v, wc1, wr1, c1, r1, hB1, tc1, tr1, -⟩ := landing_both hB hp h16
      rw [if_neg (show ¬ hasF (nI p) (nI N) = 0 by rw [has_1 hN hp]; decide), if_pos (nI_lt hp (by omega)), c1, r1, ob, ob]
      obtain ⟨wc3, wr3, a1, a2, a3, a4, a5⟩ := key wc1 wr1 hB1
      exact ⟨wc3, wr3, a1, a2, a3, tc1.tr a4, tr1.s.tr a5⟩
    · rw [if_pos (show hasF (nI p) (nI N) = 0 from b2i_f (fun z => hp ((nI_ltI (by omega) (by omega)).mp z.2))), if_neg (nI_nlt (by omega) (by omega))]
      exact key wc wr hB
theorem lot_both {N M s m : Nat} {CC : Nat → Nat → List Int32} {wc wr : Mem} (hB : Bo 0 N M CC wc wr) (hs : s < 200000) (hm : m ≤ 60) : ∃ (any : Int32) (wc' wr' : Mem), f_X4_draws (nI s) (nI m) wc = some wc' ∧ f_X0_knownToAny 1 wc' = some (any, wc') ∧ f_X5_lotSeasons (nI s) (nI m) wr = some (bcF any, wr') ∧ wc' 0 1 3 = wr' 5 0 33 ∧ QC wc wc' ∧ QR wr wr' ∧ FC wc wc' ∧ FR wr wr' := by
  obtain ⟨wc1, c1, as1⟩ := become_c (i := 1) (j := 0) (by decide) wc
  obtain ⟨wr1, r1, kp1⟩ := keeps_r wr
  have hl : Int32.toInt64 (nI s) + 1 = lN (s + 1) := by rw [nI_l (by omega), lN_1]
  obtain ⟨wc2, wr2, a1, a2, hB2, tc, ts⟩ := draws_loop hm (fun w12 => h_X5_lotSeasons_98 (fun x5_15 w16 => Option.bind (f_X5_lays (up w16 5 0 33 (w16 5 0 4))) (fun r17 => some (bitsF x5_15, r17))) FU 0 0 w12) m 0 FU (s + 1) wc1 wr1 (by omega) (by show m < 1000000; omega) (by omega) (Kp.bo (hB.as as1) kp1)
  obtain ⟨any, hS, h2, h3, -⟩ := any_loop hB2 N 0 FU 0 (by omega) (by show N < 1000000; have := hB.1.1; omega) .zero
  have ts2 : ThS wr1 (up wr2 5 0 33 (wr2 5 0 4)) := ts.up (by omega)
  obtain ⟨wr3, r3, q3, f3, g3⟩ := lays_r kp1 ts2
  have h98 : ∀ (kk : Int32 → Mem → Option (Int32 × Mem)) (r q n : Nat) (acc : Int32), q + r = N → r < n → ∀ any, h_X5_lotSeasons_98 (fun x w => some (x, w)) n acc (nI q) wr2 = some (any, wr2) → h_X5_lotSeasons_98 kk n acc (nI q) wr2 = kk any wr2 := by
    intro kk r
    induction r with
    | zero =>
      intro q n acc hq hn any h
      obtain ⟨n, rfl⟩ : ∃ m, n = m + 1 := ⟨n - 1, by omega⟩
      have g := hB2.1.2.2.1
      have hN := hB.1.1
      unfold h_X5_lotSeasons_98 at h ⊢
      rw [g, if_neg (nI_nlt (by omega) (by omega))] at h ⊢
      rw [show acc = any from congrArg (fun z => z.1) (Option.some.inj h)]
    | succ r ih =>
      intro q n acc hq hn any h
      obtain ⟨n, rfl⟩ : ∃ m, n = m + 1 := ⟨n - 1, by omega⟩
      have g := hB2.1.2.2.1
      have hN := hB.1.1
      have iq : inB (nI (3 * q)) 18 := nI_in (by omega) (by omega)
      unfold h_X5_lotSeasons_98 at h ⊢
      rw [g, if_pos (nI_lt (by omega) (by omega)), m3, if_pos iq, nI_1] at h ⊢
      exact ih (q + 1) n _ (by omega) (by omega) any h
  have h4 := h98 (fun x5_15 w16 => Option.bind (f_X5_lays (up w16 5 0 33 (w16 5 0 4))) (fun r17 => some (bitsF x5_15, r17))) N 0 FU 0 (by omega) (by show N < 1000000; have := hB.1.1; omega) any h3
  rw [show nI 0 = 0 from rfl] at a2 h2 h4
  rw [show nI (0 + 1) = 1 from rfl] at a1
  refine ⟨any, wc2, wr3, ?_, h2, ?_, ?_, as1.2.2.th.q.tr tc.q, q3, as1.2.2.th.f.tr tc.f, (kp1.f.tr ts2.f).tr f3⟩
  · unfold f_X4_draws
    rw [c1, ob, hl, a1]
  · unfold f_X5_lotSeasons
    rw [r1, ob, hl, a2, h4, r3, ob, hS.bc]
  · rw [g3 33 (by omega), up_s]; exact hB2.1.2.2.2.1
theorem b_drawn (a1 a2 a3 : Int32) : Both (f_X4_drawn a1 a2 a3) (f_X5_drawn a1 a2 a3) := by
  intro wc wr hR
  obtain ⟨N, M, CC, hB, hT, hS, hP, hI⟩ := id hR
  show Out wc wr _ _
  unfold f_X4_drawn f_X5_drawn j_X4_drawn_29
  rcases rngc a1 99999 (by omega) with ⟨h1, h2⟩ | ⟨s, hs, rfl, h1, -, -⟩
  · rw [if_pos (show rng a1 0 99999 = 0 from h1), if_pos (show rng a1 0 99999 = 0 from h1)]; exact .same hR _
  · rw [if_neg (show ¬ rng (nI s) 0 99999 = 0 from h1), if_neg (show ¬ rng (nI s) 0 99999 = 0 from h1)]
    rcases rngc a2 60 (by omega) with ⟨h1, h2⟩ | ⟨m, hm, rfl, h1, h2, h3⟩
    · rw [if_pos (show rng a2 0 60 = 0 from h1)]
      rcases h2 with h2 | h2
      · rw [if_pos h2]; exact .same hR _
      · by_cases h3 : a2 < 0
        · rw [if_pos h3]; exact .same hR _
        · rw [if_neg h3, if_neg (show ¬ a2 ≤ 60 from h2)]; exact .same hR _
    · rw [if_neg (show ¬ rng (nI m) 0 60 = 0 from h1), if_neg h2, if_pos (show nI m ≤ 60 from h3)]
      obtain ⟨any, wc', wr', e1, e2, e3, e4, qc, qr, fc, fr⟩ := lot_both hB (s := s) (m := m) (by omega) hm
      rw [e1, e3, ob, ob, e2, ob, e4]
      dsimp only
      rcases rng_01c (x := a3) with ⟨h1, h2, h3⟩ | ⟨rfl, h1⟩ | ⟨rfl, h1⟩
      · rw [if_neg h2, if_neg h3, if_pos h1]; exact .same hR _
      · rw [if_pos rfl, if_pos rfl, if_neg h1, if_pos rfl]
        exact ⟨_, _, _, rfl, rfl, hR.q qc qr, fc, fr⟩
      · rw [if_neg (show ¬ (1 : Int32) = 0 by decide), if_pos rfl, if_neg (show ¬ (1 : Int32) = 0 by decide), if_neg h1, if_neg (show ¬ (1 : Int32) = 0 by decide)]
        exact ⟨_, _, _, rfl, rfl, hR.q qc qr, fc, fr⟩
theorem odds_loop {N M s S : Nat} {CC : Nat → Nat → List Int32} {wc0 wr0 : Mem} (hB0 : Bo 0 N M CC wc0 wr0) (hs : s ≤ 99999) (hS : S ≤ 40) (x3 x4 : Int32) (kc : Int32 → Mem → Option (Int64 × Mem)) (kr : Int64 → Mem → Option (Int64 × Mem)) : ∀ (r k n c : Nat) (wc wr : Mem), k + r = S → r < n → c ≤ k → QC wc0 wc → QR wr0 wr → ∃ (d : Nat) (wc' wr' : Mem), d ≤ S ∧ h_X4_odds_38 (nI s) (nI S) x3 x4 kc n (nI c) (nI k) wc = kc (nI d) wc' ∧ h_X5_odds_50 (nI s) (nI S) x3 x4 kr n (lN c) (nI k) wr = kr (lN d) wr' ∧ QC wc0 wc' ∧ QR wr0 wr' ∧ FC wc wc' ∧ FR wr wr' := by
  intro r
  induction r with
  | zero =>
    intro k n c wc wr hk hn hc qc qr
    obtain ⟨n, rfl⟩ : ∃ m, n = m + 1 := ⟨n - 1, by omega⟩
    refine ⟨c, wc, wr, by omega, ?_, ?_, qc, qr, .rf, .rf⟩
    · unfold h_X4_odds_38
      rw [if_neg (nI_nlt (by omega) (by omega))]
    · unfold h_X5_odds_50
      rw [if_neg (nI_nlt (by omega) (by omega))]
  | succ r ih =>
    intro k n c wc wr hk hn hc qc qr
    obtain ⟨n, rfl⟩ : ∃ m, n = m + 1 := ⟨n - 1, by omega⟩
    obtain ⟨any, wc2, wr2, e1, e2, e3, -, qc2, qr2, fc2, fr2⟩ := lot_both (hB0.q qc qr) (s := s + k) (m := 20) (by omega) (by omega)
    unfold h_X4_odds_38 h_X5_odds_50
    rw [if_pos (nI_lt (by omega) (by omega)), if_pos (nI_lt (by omega) (by omega)), nI_add, show (20 : Int32) = nI 20 from rfl, e1, ob, e2, ob, e3, ob, nI_1]
    dsimp only
    by_cases h : bcF any < x3
    · rw [if_pos h, if_pos h, show lN c + 0 = lN c from Int64.add_zero _]
      obtain ⟨d, wc3, wr3, b0, b1, b2, b3, b4, b5, b6⟩ := ih (k + 1) n c wc2 wr2 (by omega) (by omega) (by omega) (qc.tr qc2) (qr.tr qr2)
      exact ⟨d, wc3, wr3, b0, b1, b2, b3, b4, fc2.tr b5, fr2.tr b6⟩
    · rw [if_neg h, if_neg h, nI_1, lN_1]
      obtain ⟨d, wc3, wr3, b0, b1, b2, b3, b4, b5, b6⟩ := ih (k + 1) n (c + 1) wc2 wr2 (by omega) (by omega) (by omega) (qc.tr qc2) (qr.tr qr2)
      exact ⟨d, wc3, wr3, b0, b1, b2, b3, b4, fc2.tr b5, fr2.tr b6⟩
theorem b_odds (a1 a2 a3 a4 : Int32) : Both (f_X4_odds a1 a2 a3 a4) (f_X5_odds a1 a2 a3 a4) := by
  intro wc wr hR
  obtain ⟨N, M, CC, hB, hT, hS, hP, hI⟩ := id hR
  show Out wc wr _ _
  unfold f_X4_odds f_X5_odds
  rcases rngc a1 99999 (by omega) with ⟨h1, h2⟩ | ⟨s, hs, rfl, h1, -, -⟩
  · rw [if_pos (show rng a1 0 99999 = 0 from h1), if_pos (show rng a1 0 99999 = 0 from h1)]; exact .same hR _
  · rw [if_neg (show ¬ rng (nI s) 0 99999 = 0 from h1), if_neg (show ¬ rng (nI s) 0 99999 = 0 from h1)]
    by_cases h2 : 1 ≤ a2 ∧ a2 ≤ 40
    · rw [if_neg (Int32.not_lt.mpr h2.1), if_pos h2.2, if_neg (fun z => rng_0.mp z h2)]
      have hn0 : ¬ a2 < 0 := Int32.not_lt.mpr (Int32.le_trans (show (0 : Int32) ≤ 1 by decide) h2.1)
      obtain ⟨S, hS40, rfl⟩ := nI_of2 (M := 40) (n := 40) rfl hn0 h2.2
      have hS0 : 0 < S := by
        rcases Nat.eq_zero_or_pos S with h | h
        · subst h; exact absurd h2.1 (by decide)
        · exact h
      rcases rngc a3 16 (by omega) with ⟨h1, h2⟩ | ⟨m, hm, e3, h1, h2, h3⟩
      · rw [if_pos (show rng a3 0 16 = 0 from h1)]
        rcases h2 with h2 | h2
        · rw [if_pos h2]; exact .same hR _
        · by_cases h3 : a3 < 0
          · rw [if_pos h3]; exact .same hR _
          · rw [if_neg h3, if_neg (show ¬ a3 ≤ 16 from h2)]; exact .same hR _
      · rw [if_neg (show ¬ rng a3 0 16 = 0 from h1), if_neg h2, if_pos (show a3 ≤ 16 from h3)]
        obtain ⟨d, wc', wr', hd, e1, e2, qc, qr, fc, fr⟩ := odds_loop hB hs hS40 a3 a4 (fun x5_10 w11 => Option.bind (f_X4_lowest x5_10 (nI S) a4 w11) (fun r12 => some (r12.1, r12.2))) (fun x5_8 w9 => Option.bind (f_X5_lowest x5_8 (Int32.toInt64 (nI S)) a4 w9) (fun r10 => some (r10.1, r10.2))) S 0 FU 0 wc wr (by omega) (by show S < 1000000; omega) (by omega) .rf .rf
        rw [show nI 0 = 0 from rfl] at e1 e2
        rw [show lN 0 = 0 from rfl] at e2
        rw [e1, e2, nI_l (by omega)]
        rcases rng_01c (x := a4) with ⟨h1, h2, h3⟩ | ⟨hh, h1⟩ | ⟨hh, h1⟩
        · rw [if_pos h1, lowest_no (by omega) (by omega) a4 h2 h3, ob]
          exact ⟨_, _, _, rfl, rfl, hR.q qc .rf, fc, .rf⟩
        · obtain ⟨v, e1, e2⟩ := lowest_both (a := d) (b := S) (by omega) (by omega) hS0 a4 (Or.inl hh) wc' wr'
          rw [if_neg h1, e1, e2, ob, ob]
          exact ⟨_, _, _, rfl, rfl, hR.q qc qr, fc, fr⟩
        · obtain ⟨v, e1, e2⟩ := lowest_both (a := d) (b := S) (by omega) (by omega) hS0 a4 (Or.inr hh) wc' wr'
          rw [if_neg h1, e1, e2, ob, ob]
          exact ⟨_, _, _, rfl, rfl, hR.q qc qr, fc, fr⟩
    · rw [if_pos (rng_0.mpr h2)]
      by_cases h3 : a2 < 1
      · rw [if_pos h3]; exact .same hR _
      · rw [if_neg h3, if_neg (fun z => h2 ⟨Int32.not_lt.mp h3, z⟩)]; exact .same hR _
