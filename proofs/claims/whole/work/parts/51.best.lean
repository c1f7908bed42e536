/-! talk, what is best -/
theorem bit_cases {n k : Nat} (h : n < 2 ^ 31) (hk : k < 32) : bit (nI n) (nI k) = 0 ∨ bit (nI n) (nI k) = 1 := by
  rw [bit_N h hk]
  rcases Nat.mod_two_eq_zero_or_one (n / 2 ^ k) with h | h <;> rw [h]
  · exact Or.inl rfl
  · exact Or.inr rfl
theorem bit_tb {n k : Nat} (h : n < 2 ^ 31) (hk : k < 32) : bit (nI n) (nI k) = 1 ↔ n.testBit k = true := by
  rw [bit_N h hk, Nat.testBit_eq_decide_div_mod_eq, decide_eq_true_eq, show (1 : Int32) = nI 1 from rfl]
  have := Nat.mod_lt (n / 2 ^ k) (show 0 < 2 by omega)
  exact nI_eq (by omega) (by omega)
theorem bit_or {x y : Int32} (hx : S16 x) (hy : S16 y) {t : Nat} (ht : t < 16) : bit (x ||| y) (nI t) = 1 ↔ bit x (nI t) = 1 ∨ bit y (nI t) = 1 := by
  obtain ⟨n, hn, rfl⟩ := hx
  obtain ⟨m, hm, rfl⟩ := hy
  have hnm : n ||| m < 2 ^ 16 := Nat.or_lt_two_pow (n := 16) hn hm
  rw [nI_or, bit_tb (by omega) (by omega), bit_tb (by omega) (by omega), bit_tb (by omega) (by omega), Nat.testBit_or, Bool.or_eq_true]
theorem bit0 {t : Nat} (ht : t < 32) : ¬ bit 0 (nI t) = 1 := by
  rw [show (0 : Int32) = nI 0 from rfl, bit_N (by omega) ht, Nat.zero_div]; decide
theorem talk_tail {m N : Nat} (hm : m < 2 ^ N) (hN : N ≤ 6) (x2 : Int32) (kc : Int32 → Int32 → Int32 → Mem → Option (Int32 × Mem)) (wc : Mem) (x3 x4 x5 : Int32) : ∀ (r q n : Nat), q + r = 6 → r < n → N ≤ q → h_X4_talk_41 (nI m) x2 kc n x3 x4 x5 (nI q) wc = kc x3 x4 x5 wc := by
  intro r
  induction r with
  | zero =>
    intro q n hq hn hNq
    obtain ⟨n, rfl⟩ : ∃ m, n = m + 1 := ⟨n - 1, by omega⟩
    have e : q = 6 := by omega
    subst e
    unfold h_X4_talk_41
    rw [if_neg (show ¬ nI 6 < 6 by decide)]
  | succ r ih =>
    intro q n hq hn hNq
    obtain ⟨n, rfl⟩ : ∃ m, n = m + 1 := ⟨n - 1, by omega⟩
    have h1 : 2 ^ N ≤ 2 ^ q := Nat.pow_le_pow_right (by omega) hNq
    have h2 : 2 ^ q ≤ 2 ^ 6 := Nat.pow_le_pow_right (by omega) (by omega)
    have hb : ¬ bit (nI m) (nI q) = 1 := by
      rw [bit_N (by omega) (by omega), Nat.div_eq_of_lt (by omega)]; decide
    unfold h_X4_talk_41
    rw [if_pos (show nI q < 6 from nI_lt (b := 6) (by omega) (by omega)), if_pos ((holdsF_k (by omega)).mpr hb), nI_1]
    exact ih (q + 1) n (by omega) (by omega) (by omega)
theorem talk_loop {N M m : Nat} {CC : Nat → Nat → List Int32} {wc wr : Mem} (hB : Bo 0 N M CC wc wr) (hm : m < 2 ^ N) (x2 : Int32) (kc kr : Int32 → Int32 → Int32 → Mem → Option (Int32 × Mem)) : ∀ (r q n : Nat) (x3 x4 x5 : Int32), q + r = N → r + 6 < n → ∃ y3 y4 y5, h_X4_talk_41 (nI m) x2 kc n x3 x4 x5 (nI q) wc = kc y3 y4 y5 wc ∧ h_X5_talk_40 (nI m) x2 kr n x3 x4 x5 (nI q) wr = kr y3 y4 y5 wr := by
  obtain ⟨g1, g2, g3, g4, g5, g6, g7, g8⟩ := hB.1
  have h64 : 2 ^ N ≤ 2 ^ 6 := Nat.pow_le_pow_right (by omega) g1
  intro r
  induction r with
  | zero =>
    intro q n x3 x4 x5 hq hn
    refine ⟨x3, x4, x5, talk_tail hm g1 x2 kc wc x3 x4 x5 (6 - q) q n (by omega) (by omega) (by omega), ?_⟩
    obtain ⟨n, rfl⟩ : ∃ m, n = m + 1 := ⟨n - 1, by omega⟩
    unfold h_X5_talk_40
    rw [g3, if_neg (nI_nlt (by omega) (by omega))]
  | succ r ih =>
    intro q n x3 x4 x5 hq hn
    obtain ⟨n, rfl⟩ : ∃ m, n = m + 1 := ⟨n - 1, by omega⟩
    have iq : inB (nI (3 * q)) 18 := nI_in (by omega) (by omega)
    have tq : tn (nI (3 * q)) = 3 * q := nI_clamp (by omega)
    have e15 : atV wc 15 0 (nI q) = wr 22 0 (3 * q) := (atV_n wc 0 (show q < lenK 15 by show q < 6; omega) (by decide)).trans (g8 q (by omega)).2.2.1
    unfold h_X4_talk_41 h_X5_talk_40
    rw [if_pos (show nI q < 6 from nI_lt (b := 6) (by omega) (by omega)), g3, if_pos (nI_lt (by omega) (by omega)), e15, m3, if_pos iq, if_pos iq, if_pos iq, tq, nI_1]
    by_cases hb : bit (nI m) (nI q) = 1
    · rw [if_neg (fun z => (holdsF_k (by omega)).mp z hb), if_pos (show (shrI (nI m) (nI q)) &&& 1 = 1 from hb)]
      exact ih (q + 1) n _ _ _ (by omega) (by omega)
    · rw [if_pos ((holdsF_k (by omega)).mpr hb), if_neg (show ¬ (shrI (nI m) (nI q)) &&& 1 = 1 from hb)]
      exact ih (q + 1) n _ _ _ (by omega) (by omega)
theorem b_talk (a1 a2 : Int32) : Both (f_X4_talk a1 a2) (f_X5_talk a1 a2) := by
  intro wc wr hR
  obtain ⟨N, M, CC, hB, hT, hS, hP, hI⟩ := id hR
  show Out wc wr _ _
  unfold f_X4_talk f_X5_talk
  obtain ⟨g1, g2, g3, -⟩ := id hB.1
  have h64 : 2 ^ N ≤ 2 ^ 6 := Nat.pow_le_pow_right (by omega) g1
  have hpos : 0 < 2 ^ N := Nat.two_pow_pos N
  have hsub : nI (2 ^ N) - 1 = nI (2 ^ N - 1) := by rw [show (1 : Int32) = nI 1 from rfl, nI_sub (by omega)]
  rw [g2, g3, nI_shl (by omega), hsub]
  rcases rngc a1 (2 ^ N - 1) (by omega) with ⟨h1, h2⟩ | ⟨m, hm, rfl, h1, h2, h3⟩
  · rw [if_pos h1]
    rcases h2 with h2 | h2
    · rw [if_pos h2]; exact .same hR _
    · by_cases h3 : a1 < 0
      · rw [if_pos h3]; exact .same hR _
      · obtain ⟨j, hj, rfl⟩ := nI_of h3
        rw [if_neg h3, if_neg (fun z => h2 ((nI_leI hj (by omega)).mpr (by have := (nI_ltI hj (by omega)).mp z; omega)))]; exact .same hR _
  · rw [if_neg h1, if_neg h2, if_pos (nI_lt (by omega) (by omega))]
    rcases rngc a2 3 (by omega) with ⟨h1, h2⟩ | ⟨t, ht, rfl, h1, h2, h3⟩
    · rw [if_pos (show rng a2 0 3 = 0 from h1)]
      rcases h2 with h2 | h2
      · rw [if_pos h2]; exact .same hR _
      · by_cases h3 : a2 < 0
        · rw [if_pos h3]; exact .same hR _
        · rw [if_neg h3, if_neg (show ¬ a2 ≤ 3 from h2)]; exact .same hR _
    · rw [if_neg (show ¬ rng (nI t) 0 3 = 0 from h1), if_neg h2, if_pos (show nI t ≤ 3 from h3)]
      obtain ⟨y3, y4, y5, e1, e2⟩ := talk_loop (m := m) hB (by omega) (nI t) (fun x3_7 x4_8 x5_9 w10 => swE (nI t) 0 [some (x3_7, w10), some (x4_8, w10), some (65535 &&& (x4_8 ^^^ (-1)), w10)] (some (x4_8 &&& (x5_9 ^^^ (-1)), w10))) (fun x3_8 x4_9 x5_10 w11 => if nI t = 0 then (some (x3_8, w11)) else (if nI t = 1 then (some (x4_9, w11)) else (if nI t = 2 then (some (65535 &&& (x4_9 ^^^ (-1)), w11)) else (some (x4_9 &&& (x5_10 ^^^ (-1)), w11))))) N 0 FU 65535 0 0 (by omega) (by show N + 6 < 1000000; omega)
      rw [show nI 0 = 0 from rfl] at e1 e2
      rw [e1, e2]
      exact Outs.sw (nI t) (.same hR _) [_, _, _] [_, _, _] 0 ⟨.same hR _, .same hR _, .same hR _, trivial⟩
theorem which_loop {N M p : Nat} {CC : Nat → Nat → List Int32} {wc0 wr0 : Mem} (hB0 : Bo 0 N M CC wc0 wr0) (hp : p < N) (x2 : Int32) (kc kr : Int32 → Int32 → Mem → Option (Int32 × Mem)) : ∀ (r t n : Nat) (x3 x4 : Int32) (wc wr : Mem), t + r = 16 → r < n → (x3 = -1 ∨ ∃ q, q < 16 ∧ x3 = nI q) → ScC wc0 wc → ScR wr0 wr → ∃ (y3 y4 : Int32) (wc' wr' : Mem), h_X4_which_44 (nI p) x2 kc n x3 x4 (nI t) wc = kc y3 y4 wc' ∧ h_X5_which_40 (nI p) x2 kr n x3 x4 (nI t) wr = kr y3 y4 wr' ∧ ScC wc0 wc' ∧ ScR wr0 wr' := by
  have hN := hB0.1.1
  have hp6 : p < 6 := by omega
  have i1 : inB (nI (3 * p + 1)) 18 := nI_in (by omega) (by omega)
  have t1 : tn (nI (3 * p + 1)) = 3 * p + 1 := nI_clamp (by omega)
  have i2 : inB (nI (3 * p + 2)) 18 := nI_in (by omega) (by omega)
  have t2 : tn (nI (3 * p + 2)) = 3 * p + 2 := nI_clamp (by omega)
  intro r
  induction r with
  | zero =>
    intro t n x3 x4 wc wr ht hn h3 sc sr
    obtain ⟨n, rfl⟩ : ∃ m, n = m + 1 := ⟨n - 1, by omega⟩
    have e : t = 16 := by omega
    subst e
    refine ⟨x3, x4, wc, wr, ?_, ?_, sc, sr⟩
    · unfold h_X4_which_44
      rw [if_neg nI_nlt16]
    · unfold h_X5_which_40
      rw [if_neg nI_nlt16]
  | succ r ih =>
    intro t n x3 x4 wc wr ht hn h3 sc sr
    obtain ⟨n, rfl⟩ : ∃ m, n = m + 1 := ⟨n - 1, by omega⟩
    have hB := hB0.sc sc sr
    obtain ⟨k1, k2, k3, k4, k5, k6, k7, k8, k9⟩ := hB.1.2.2.2.2.2.2.2 p hp
    have a16 : atV wc 16 0 (nI p) = wr 22 0 (3 * p + 1) := (atV_n wc 0 hp6 (by decide)).trans k4
    have a17 : atV wc 17 0 (nI p) = wr 22 0 (3 * p + 2) := (atV_n wc 0 hp6 (by decide)).trans k5
    unfold h_X4_which_44 h_X5_which_40
    rw [if_pos (nI_lt16 (by omega)), if_pos (nI_lt16 (by omega)), m31, if_pos i1, t1, m32, if_pos i2, t2, a16, a17]
    have hb : bit (wr 22 0 (3 * p + 1)) (nI t) = 0 ∨ bit (wr 22 0 (3 * p + 1)) (nI t) = 1 := by
      obtain ⟨z, hz, e⟩ := k7
      rw [e]; exact bit_cases (by omega) (by omega)
    rcases hb with hb | hb
    · obtain ⟨u, wc2, wr2, c2, r2, sc2, sr2⟩ := lucks_both hB hp (th := t) (by omega)
      have hb1 : ¬ bit (wr 22 0 (3 * p + 1)) (nI t) = 1 := by rw [hb]; decide
      rw [if_pos ((holdsF_k (by omega)).mpr hb1), if_pos (show (shrI (wr 22 0 (3 * p + 1)) (nI t)) &&& 1 = 0 from hb), c2, r2, ob, ob]
      dsimp only
      generalize wiF (wr 22 0 (3 * p + 2) + u) 0 99 = lk
      unfold j_X4_which_111 j_X5_which_103 j_X5_which_108 j_X5_which_121
      rw [if_neg (show ¬ (1 : Int32) = 0 by decide), if_neg (show ¬ (1 : Int32) = 0 by decide), if_pos (show (0 : Int32) = 0 from rfl), if_pos (show (0 : Int32) = 0 from rfl), nI_1]
      by_cases hx : x3 = -1
      · rw [if_pos ((neg1_lt h3).mpr hx), if_pos hx]
        exact ih (t + 1) n (nI t) lk wc2 wr2 (by omega) (by omega) (Or.inr ⟨t, by omega, rfl⟩) (sc.tr sc2) (sr.tr sr2)
      · rw [if_neg (fun z => hx ((neg1_lt h3).mp z)), if_neg hx]
        by_cases hl : lk ≤ x4
        · rw [if_pos hl, if_pos hl]
          exact ih (t + 1) n x3 x4 wc2 wr2 (by omega) (by omega) h3 (sc.tr sc2) (sr.tr sr2)
        · rw [if_neg hl, if_neg hl]
          exact ih (t + 1) n (nI t) lk wc2 wr2 (by omega) (by omega) (Or.inr ⟨t, by omega, rfl⟩) (sc.tr sc2) (sr.tr sr2)
    · have hb0 : ¬ bit (wr 22 0 (3 * p + 1)) (nI t) = 0 := by rw [hb]; decide
      rw [if_neg (fun z => (holdsF_k (by omega)).mp z hb), if_neg (show ¬ (shrI (wr 22 0 (3 * p + 1)) (nI t)) &&& 1 = 0 from hb0), nI_1]
      exact ih (t + 1) n x3 x4 wc wr (by omega) (by omega) h3 sc sr
theorem b_which (a1 a2 : Int32) : Both (f_X4_which a1 a2) (f_X5_which a1 a2) := by
  intro wc wr hR
  obtain ⟨N, M, CC, hB, hT, hS, hP, hI⟩ := id hR
  show Out wc wr _ _
  unfold f_X4_which f_X5_which
  rcases hasx hB a1 with ⟨a, b⟩ | ⟨p, hp, hp6, rfl, a, b, ip, tp, i0, t0, i1, t1, i2, t2⟩
  · rw [if_pos a, if_pos b]; exact .same hR _
  · rw [if_neg a, if_neg b, if_pos i2]
    obtain ⟨k1, k2, k3, k4, k5, k6, k7, k8, k9⟩ := hB.1.2.2.2.2.2.2.2 p hp
    have a17 : atV wc 17 0 (nI p) = wr 22 0 (3 * p + 2) := (atV_n wc 0 hp6 (by decide)).trans k5
    obtain ⟨y3, y4, wc', wr', e1, e2, sc, sr⟩ := which_loop hB hp a2 (fun x3_8 x4_9 w10 => if a2 = 0 then (some (x3_8, w10)) else (some (x4_9, w10))) (fun x3_13 x4_14 w15 => if a2 = 0 then (some (x3_13, w15)) else (some (x4_14, w15))) 16 0 FU (-1) (wr 22 0 (3 * p + 2)) wc wr (by omega) (by show 16 < 1000000; omega) (Or.inl rfl) .rf .rf
    rw [show nI 0 = 0 from rfl] at e1 e2
    unfold j_X4_which_26
    rw [a17, t2, e1, e2]
    rcases rng_01c (x := a2) with ⟨h1, h2, h3⟩ | ⟨rfl, h1⟩ | ⟨rfl, h1⟩
    · rw [if_neg h2, if_neg h3, if_pos h1]; exact .same hR _
    · rw [if_pos rfl, if_neg h1, if_pos rfl]
      exact ⟨_, _, _, rfl, rfl, hR.q sc.q sr.q, sc.f, sr.f⟩
    · rw [if_neg (show ¬ (1 : Int32) = 0 by decide), if_pos rfl, if_neg h1, if_neg (show ¬ (1 : Int32) = 0 by decide), if_neg (show ¬ (1 : Int32) = 0 by decide)]
      exact ⟨_, _, _, rfl, rfl, hR.q sc.q sr.q, sc.f, sr.f⟩
