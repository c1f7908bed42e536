/-! when; shares in lowest terms; seasons by a seed -/
theorem when_test {N M : Nat} {CC : Nat → Nat → List Int32} {wc wr : Mem} (hB : Bo 1 N M CC wc wr) (x1 : Int32) (hx : x1 = -1 ∨ ∃ t, t < 16 ∧ x1 = nI t) (a b : Option (Int32 × Mem)) : ∃ z : Int32, (z = 0 ∨ z = 1) ∧ f_X5_isNow x1 wr = some (z, wr) ∧ (if x1 < 0 then (if wc 0 1 3 = 0 then a else b) else (Option.bind (f_X0_knownToAny 1 wc) (fun r8 => if holdsF r8.1 x1 = 0 then b else a))) = if z = 0 then b else a := by
  obtain ⟨g1, g2, g3, g4, -⟩ := id hB.1
  rcases hx with rfl | ⟨t, ht, rfl⟩
  · rw [if_pos (show (-1 : Int32) < 0 by decide), g4]
    unfold f_X5_isNow
    rw [if_pos rfl]
    by_cases h : wr 5 0 4 = 0
    · exact ⟨1, Or.inr rfl, if_pos h, by rw [if_pos h, if_neg (by decide)]⟩
    · exact ⟨0, Or.inl rfl, if_neg h, by rw [if_neg h, if_pos rfl]⟩
  · obtain ⟨any, h1, h2, -, h4⟩ := any_loop hB N 0 FU 0 (by omega) (by show N < 1000000; omega) .zero
    obtain ⟨-, z, h5, h6, h7⟩ := h4 t ht
    rw [show nI 0 = 0 from rfl] at h2 h5
    have hne : ¬ nI t = -1 := fun z => absurd (show nI t < 0 by rw [z]; decide) (nI_pos (by omega))
    have hk : f_X0_knownToAny 1 wc = some (any, wc) := h2
    refine ⟨z, h6, ?_, ?_⟩
    · unfold f_X5_isNow
      rw [if_neg hne]
      exact h5
    · rw [if_neg (nI_pos (by omega)), hk, ob]
      dsimp only
      have hb0 : ¬ bit 0 (nI t) = 1 := bit0 (by omega)
      by_cases hb : bit any (nI t) = 1
      · have hz : z = 1 := (h7.mp hb).resolve_left hb0
        rw [if_neg (fun y => (holdsF_k ht).mp y hb), hz, if_neg (by decide)]
      · have hz : z = 0 := h6.resolve_right (fun y => hb (h7.mpr (Or.inr y)))
        rw [if_pos ((holdsF_k ht).mpr hb), if_pos hz]
theorem when_loop {N M : Nat} {CC : Nat → Nat → List Int32} (x1 : Int32) (hx : x1 = -1 ∨ ∃ t, t < 16 ∧ x1 = nI t) (kr : Int32 → Mem → Option (Int32 × Mem)) : ∀ (r q n : Nat) (wc wr : Mem), q + r = 61 → r < n → Bo 1 N M CC wc wr → ∃ (v : Int32) (wc' wr' : Mem), h_X4_when_27 x1 (fun w10 => some (-1, w10)) n (nI q) wc = some (v, wc') ∧ h_X5_when_21 x1 kr n (-1) (nI q) wr = kr v wr' ∧ ThC 1 wc wc' ∧ ThS wr wr' := by
  intro r
  induction r with
  | zero =>
    intro q n wc wr hq hn hB
    obtain ⟨n, rfl⟩ : ∃ m, n = m + 1 := ⟨n - 1, by omega⟩
    have e : q = 61 := by omega
    subst e
    refine ⟨-1, wc, wr, ?_, ?_, .rf, .rf⟩
    · unfold h_X4_when_27
      rw [if_neg (show ¬ nI 61 ≤ 60 by decide)]
    · unfold h_X5_when_21
      rw [if_neg (show ¬ nI 61 ≤ 60 by decide)]
  | succ r ih =>
    intro q n wc wr hq hn hB
    obtain ⟨n, rfl⟩ : ∃ m, n = m + 1 := ⟨n - 1, by omega⟩
    have hq60 : nI q ≤ 60 := nI_le (b := 60) (by omega) (by omega)
    obtain ⟨u, wc2, wr2, c2, r2, hB2, tc2, tr2, -⟩ := washes_both hB
    obtain ⟨z, hz, e1, e2⟩ := when_test hB x1 hx (some (nI q, wc)) (j_X4_when_66 (h_X4_when_27 x1 (fun w10 => some (-1, w10)) n) x1 (nI q) wc)
    have ec : h_X4_when_27 x1 (fun w10 => some (-1, w10)) (n + 1) (nI q) wc = if z = 0 then j_X4_when_66 (h_X4_when_27 x1 (fun w10 => some (-1, w10)) n) x1 (nI q) wc else some (nI q, wc) := by
      rw [← e2]
      have hk : ∃ any, f_X0_knownToAny 1 wc = some (any, wc) := by
        obtain ⟨any, h1, h2, -⟩ := any_loop hB N 0 FU 0 (by omega) (by show N < 1000000; have := hB.1.1; omega) .zero
        exact ⟨any, h2⟩
      obtain ⟨any, hk⟩ := hk
      unfold h_X4_when_27
      rw [if_pos hq60, hk, ob, ob]
    rw [ec]
    unfold h_X5_when_21
    rw [if_pos hq60, if_pos rfl, e1, ob]
    dsimp only
    unfold j_X5_when_45 j_X4_when_66
    rw [r2, ob, ob, c2, ob, nI_1]
    dsimp only
    rcases hz with rfl | rfl
    · rw [if_pos rfl, if_pos rfl]
      obtain ⟨v, wc3, wr3, a1, a2, a3, a4⟩ := ih (q + 1) n wc2 wr2 (by omega) (by omega) hB2
      exact ⟨v, wc3, wr3, a1, a2, tc2.tr a3, tr2.s.tr a4⟩
    · rw [if_neg (show ¬ (1 : Int32) = 0 by decide), if_neg (show ¬ (1 : Int32) = 0 by decide)]
      refine ⟨nI q, wc, wr2, rfl, ?_, .rf, tr2.s⟩
      obtain ⟨n, rfl⟩ : ∃ m, n = m + 1 := ⟨n - 1, by omega⟩
      have hne : ¬ nI q = -1 := fun z => absurd (show nI q < 0 by rw [z]; decide) (nI_pos (by omega))
      unfold h_X5_when_21
      rw [if_neg hne]
      split <;> rfl
theorem b_when (a1 : Int32) : Both (f_X4_when a1) (f_X5_when a1) := by
  intro wc wr hR
  obtain ⟨N, M, CC, hB, hT, hS, hP, hI⟩ := id hR
  show Out wc wr _ _
  unfold f_X4_when f_X5_when
  by_cases h : -1 ≤ a1 ∧ a1 ≤ 15
  · have hx : a1 = -1 ∨ ∃ t, t < 16 ∧ a1 = nI t := by
      by_cases h0 : a1 < 0
      · refine Or.inl (Int32.toInt_inj.mp ?_)
        have := Int32.le_iff_toInt_le.mp h.1
        have h2 := Int32.lt_iff_toInt_lt.mp h0
        rw [show (-1 : Int32).toInt = -1 by decide] at this ⊢
        rw [show (0 : Int32).toInt = 0 by decide] at h2
        omega
      · obtain ⟨t, ht, e⟩ := nI_of2 (M := 15) (n := 15) rfl h0 h.2
        exact Or.inr ⟨t, by omega, e⟩
    have h16 : a1 < 16 := Int32.lt_of_le_of_lt h.2 (by decide)
    rw [if_neg (Int32.not_lt.mpr h.1), if_pos h16, if_neg (fun z => rng_0.mp z h)]
    obtain ⟨wc1, c1, as1⟩ := become_c (i := 1) (j := 0) (by decide) wc
    obtain ⟨wr1, r1, kp1⟩ := keeps_r wr
    obtain ⟨v, wc2, wr2, e1, e2, tc, ts⟩ := when_loop a1 hx (fun x2_8 w9 => Option.bind (f_X5_lays w9) (fun r10 => some (x2_8, r10))) 61 0 FU wc1 wr1 (by omega) (by show 61 < 1000000; omega) (Kp.bo (hB.as as1) kp1)
    obtain ⟨wr3, r3, q3, f3, -⟩ := lays_r kp1 ts
    rw [show nI 0 = 0 from rfl] at e1 e2
    rw [c1, r1, ob, ob, e1, e2, r3, ob]
    exact ⟨v, wc2, wr3, rfl, rfl, hR.q (as1.2.2.th.q.tr tc.q) q3, as1.2.2.th.f.tr tc.f, (kp1.f.tr ts.f).tr f3⟩
  · rw [if_pos (rng_0.mpr h)]
    by_cases h1 : a1 < -1
    · rw [if_pos h1]; exact .same hR _
    · have h2 : ¬ a1 < 16 := fun z => h ⟨Int32.not_lt.mp h1, by
        have := Int32.lt_iff_toInt_lt.mp z
        refine Int32.le_iff_toInt_le.mpr ?_
        rw [show (16 : Int32).toInt = 16 by decide] at this
        rw [show (15 : Int32).toInt = 15 by decide]
        omega⟩
      rw [if_neg h1, if_neg h2]; exact .same hR _
/-- in lowest terms -/
theorem common_loop (w : Mem) (k : Int32 → Mem → Option (Int32 × Mem)) : ∀ (b a i n : Nat), b ≤ 40 → a ≤ 40 → i + b < 64 → b < n → h_X4_common_7 k n (nI a) (nI b) (nI i) w = k (nI (Nat.gcd b a)) w := by
  intro b
  induction b using Nat.strongRecOn with
  | _ b ih =>
    intro a i n hb ha hi hn
    obtain ⟨n, rfl⟩ : ∃ m, n = m + 1 := ⟨n - 1, by omega⟩
    unfold h_X4_common_7
    rw [if_pos (show nI i < 64 from nI_lt (b := 64) (by omega) (by omega))]
    by_cases h0 : b = 0
    · subst h0
      rw [if_pos (show nI 0 = 0 from rfl), Nat.gcd_zero_left]
    · have hne : ¬ nI b = 0 := nI_ne0 (by omega) (by omega)
      have hlt := Nat.mod_lt a (show 0 < b by omega)
      rw [if_neg hne, if_pos hne, nI_1, show rmI (nI a) (nI b) = nI (a % b) from pk_rem (by omega) (by omega) (by omega), ih (a % b) hlt b (i + 1) n (by omega) (by omega) (by omega) (by omega), Nat.gcd_rec b a]
theorem lowest_loop (w : Mem) (y0 y2 : Int64) (y4 : Int32) (k : Int64 → Mem → Option (Int64 × Mem)) : ∀ (b a n : Nat), b ≤ 40 → a ≤ 40 → b < n → h_X5_lowest_16 y0 y2 y4 k n (lN a) (lN b) w = k (lN (Nat.gcd b a)) w := by
  intro b
  induction b using Nat.strongRecOn with
  | _ b ih =>
    intro a n hb ha hn
    obtain ⟨n, rfl⟩ : ∃ m, n = m + 1 := ⟨n - 1, by omega⟩
    unfold h_X5_lowest_16
    by_cases h0 : b = 0
    · subst h0
      rw [if_pos (show lg_cmp (lN 0) 0 = 0 by decide), Nat.gcd_zero_left]
    · have hne : ¬ lN b = 0 := fun z => h0 ((lN_eq (a := b) (b := 0) (by omega) (by omega)).mp z)
      have hc : ¬ lg_cmp (lN b) 0 = 0 := by
        unfold lg_cmp
        split
        · decide
        · first | decide | (rw [if_neg hne]; decide)
      have hlt := Nat.mod_lt a (show 0 < b by omega)
      rw [if_neg hc, if_pos hne, show rmL (lN a) (lN b) = lN (a % b) from pk_lRem (by omega) (by omega) (by omega), ih (a % b) hlt b n (by omega) (by omega) (by omega), Nat.gcd_rec b a]
theorem lowest_both {a b : Nat} (ha : a ≤ 40) (hb : b ≤ 40) (hb0 : 0 < b) (part : Int32) (hp : part = 0 ∨ part = 1) (wc wr : Mem) : ∃ v, f_X4_lowest (nI a) (nI b) part wc = some (v, wc) ∧ f_X5_lowest (lN a) (lN b) part wr = some (v, wr) := by
  have hg0 : 0 < Nat.gcd b a := Nat.gcd_pos_of_pos_left _ hb0
  have hgb : Nat.gcd b a ≤ b := Nat.gcd_le_left _ hb0
  have hc := common_loop wc (fun x2_4 w5 => some (x2_4, w5)) b a 0 FU hb ha (by omega) (by show b < 1000000; omega)
  have hl := lowest_loop wr (lN a) (lN b) part (fun x5_4 w5 => if part = 0 then (if ¬ (x5_4 : Int64) = 0 then (some (lN a / x5_4, w5)) else none) else (if ¬ (x5_4 : Int64) = 0 then (some (lN b / x5_4, w5)) else none)) b a FU hb ha (by show b < 1000000; omega)
  rw [show nI 0 = 0 from rfl] at hc
  have hc2 : f_X4_common (nI a) (nI b) wc = some (nI (Nat.gcd b a), wc) := hc
  have hgn : ¬ nI (Nat.gcd b a) = 0 := nI_ne0 hg0 (by omega)
  have hln : ¬ lN (Nat.gcd b a) = 0 := fun z => absurd ((lN_eq (a := Nat.gcd b a) (b := 0) (by omega) (by omega)).mp z) (by omega)
  unfold f_X4_lowest f_X5_lowest j_X4_lowest_23
  rw [hc2, ob]
  dsimp only
  rw [if_neg hgn, if_pos hgn, if_pos hgn, hl, if_pos hln, if_pos hln, pk_div (by omega) hg0 (by omega), pk_div (by omega) hg0 (by omega), pk_lDiv (by omega) hg0 (by omega), pk_lDiv (by omega) hg0 (by omega), nI_l (by have := Nat.div_le_self a (Nat.gcd b a); omega), nI_l (by have := Nat.div_le_self b (Nat.gcd b a); omega)]
  by_cases h0 : a = 0
  · subst h0
    rw [if_pos (show lg_cmp (lN 0) 0 = 0 by decide)]
    rw [Nat.gcd_zero_right, Nat.zero_div, Nat.div_self hb0]
    rcases hp with rfl | rfl
    · exact ⟨lN 0, by rw [if_pos rfl, if_pos rfl], rfl⟩
    · exact ⟨lN 1, by rw [if_neg (by decide), if_pos rfl, if_neg (by decide)], rfl⟩
  · have hne : ¬ lN a = 0 := fun z => h0 ((lN_eq (a := a) (b := 0) (by omega) (by omega)).mp z)
    have hcc : ¬ lg_cmp (lN a) 0 = 0 := by
      unfold lg_cmp
      split
      · decide
      · first | decide | (rw [if_neg hne]; decide)
    rw [if_neg hcc]
    rcases hp with rfl | rfl
    · exact ⟨_, by rw [if_pos rfl, if_pos rfl], if_pos rfl⟩
    · exact ⟨_, by rw [if_neg (by decide), if_pos rfl, if_neg (by decide)], if_neg (by decide)⟩
theorem lowest_no {a b : Nat} (ha : a ≤ 40) (hb : b ≤ 40) (part : Int32) (h0 : ¬ part = 0) (h1 : ¬ part = 1) (wc : Mem) : f_X4_lowest (nI a) (nI b) part wc = some (-4611686018427387904, wc) := by
  have hc := common_loop wc (fun x2_4 w5 => some (x2_4, w5)) b a 0 FU hb ha (by omega) (by show b < 1000000; omega)
  rw [show nI 0 = 0 from rfl] at hc
  have hc2 : f_X4_common (nI a) (nI b) wc = some (nI (Nat.gcd b a), wc) := hc
  unfold f_X4_lowest
  rw [hc2, ob]
  dsimp only
  rw [if_neg h0, if_neg h1]
  split <;> rfl
theorem b_share (a1 a2 : Int32) : Both (f_X4_share a1 a2) (f_X5_share a1 a2) := by
  intro wc wr hR
  obtain ⟨N, M, CC, hB, hT, hS, hP, hI⟩ := id hR
  show Out wc wr _ _
  unfold f_X4_share f_X5_share
  rcases hasx hB a1 with ⟨a, b⟩ | ⟨p, hp, hp6, rfl, a, b, ip, tp, i0, t0, i1, t1, i2, t2⟩
  · rw [if_pos a, if_pos b]; exact .same hR _
  · rw [if_neg a, if_neg b, if_pos i1, if_pos i1, if_pos i0, if_pos i1, t1, t0]
    obtain ⟨k1, k2, k3, k4, k5, k6, k7, k8, k9⟩ := hB.1.2.2.2.2.2.2.2 p hp
    have a15 : atV wc 15 0 (nI p) = wr 22 0 (3 * p) := (atV_n wc 0 hp6 (by decide)).trans k3
    have a16 : atV wc 16 0 (nI p) = wr 22 0 (3 * p + 1) := (atV_n wc 0 hp6 (by decide)).trans k4
    rw [a15, a16, k7.bc, (k7.andl _).bc]
    obtain ⟨x, hx, ex⟩ := (k7.andl (wr 22 0 (3 * p))).bits
    obtain ⟨y, hy, ey⟩ := k7.bits
    rw [ex, ey, nI_l (by omega), nI_l (by omega)]
    by_cases h0 : wr 22 0 (3 * p + 1) = 0
    · rw [if_pos h0, if_pos h0]
      split <;> exact .same hR _
    · rw [if_neg h0, if_neg h0]
      have hy0 : 0 < y := by
        rcases Nat.eq_zero_or_pos y with h | h
        · subst h
          exfalso
          obtain ⟨n, hn, e⟩ := k7
          rw [e] at ey h0
          rw [show bitsF (nI n) = nI (bsN n 16) from bsum_N (by omega) 16 (by omega)] at ey
          have hle := bsN_le n 16
          have hz := (nI_eq (by omega) (by omega)).mp ey
          have hp2 := pw_zero (n := n) 16 (fun s hs => by
            have h1 := bs_mono n (16 - (s + 1)) (s + 1)
            rw [show s + 1 + (16 - (s + 1)) = 16 by omega] at h1
            have h2 : bsN n (s + 1) = bsN n s + n / 2 ^ s % 2 := rfl
            omega)
          have h3 : n / 2 ^ 16 = 0 := by omega
          rw [h3] at hp2
          exact h0 (by rw [hp2]; rfl)
        · exact h
      rcases rng_01c (x := a2) with ⟨h1, h2, h3⟩ | ⟨hh, h1⟩ | ⟨hh, h1⟩
      · rw [if_pos h1, lowest_no (by omega) (by omega) a2 h2 h3, ob]; exact .same hR _
      · obtain ⟨v, e1, e2⟩ := lowest_both (a := x) (b := y) (by omega) (by omega) hy0 a2 (Or.inl hh) wc wr
        rw [if_neg h1, e1, e2, ob, ob]; exact .same hR _
      · obtain ⟨v, e1, e2⟩ := lowest_both (a := x) (b := y) (by omega) (by omega) hy0 a2 (Or.inr hh) wc wr
        rw [if_neg h1, e1, e2, ob, ob]; exact .same hR _
