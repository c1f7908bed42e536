/-! how many are the least ones; taught, when -/
theorem bs_add {f t : Nat} (hf : f < 2 ^ t) : ∀ k, bsN (f + 2 ^ t) k = bsN f k + (if t < k then 1 else 0) := by
  intro k
  induction k with
  | zero => rfl
  | succ k ih =>
    show bsN (f + 2 ^ t) k + (f + 2 ^ t) / 2 ^ k % 2 = bsN f k + f / 2 ^ k % 2 + _
    rw [ih]
    have hk : 0 < 2 ^ k := Nat.two_pow_pos k
    rcases Nat.lt_trichotomy t k with h | h | h
    · have h1 : 2 ^ (t + 1) ≤ 2 ^ k := Nat.pow_le_pow_right (by omega) (by omega)
      rw [Nat.pow_succ] at h1
      rw [Nat.div_eq_of_lt (by omega : f + 2 ^ t < 2 ^ k), Nat.div_eq_of_lt (by omega : f < 2 ^ k), if_pos h, if_pos (by omega)]
    · subst h
      rw [Nat.add_div_right _ hk, Nat.div_eq_of_lt hf, if_neg (by omega), if_pos (by omega)]
    · have h1 : 2 ^ t = 2 ^ k * (2 * 2 ^ (t - k - 1)) := by
        rw [← Nat.mul_assoc, ← Nat.pow_succ, ← Nat.pow_add]; congr 1; omega
      rw [h1, Nat.add_mul_div_left _ _ hk, if_neg (by omega), if_neg (by omega)]
      omega
theorem bs_zero : ∀ k, bsN 0 k = 0 := by
  intro k
  induction k with
  | zero => rfl
  | succ k ih =>
    show bsN 0 k + 0 / 2 ^ k % 2 = 0
    rw [ih, Nat.zero_div]
theorem bs_mono (n : Nat) : ∀ j k, bsN n k ≤ bsN n (k + j) := by
  intro j
  induction j with
  | zero => intro k; exact Nat.le_refl _
  | succ j ih =>
    intro k
    have : bsN n (k + (j + 1)) = bsN n (k + j) + n / 2 ^ (k + j) % 2 := rfl
    have := ih k
    omega
theorem ls_bits {n : Nat} (hn : n < 65536) : ∀ (j t l f : Nat), t + j = 16 → l < 2 ^ 30 → f < 2 ^ t → ∃ g, g < 65536 ∧ lsG (nI n) j (nI t) (nI l) (nI f) = nI g ∧ bsN g 16 = bsN f 16 + min l (bsN n 16 - bsN n t) := by
  intro j
  induction j with
  | zero =>
    intro t l f ht hl hf
    have e : t = 16 := by omega
    subst e
    exact ⟨f, hf, rfl, by omega⟩
  | succ j ih =>
    intro t l f ht hl hf
    have h16 : 2 ^ (t + 1) ≤ 2 ^ 16 := Nat.pow_le_pow_right (by omega) (by omega)
    rw [Nat.pow_succ] at h16
    have hs : bsN n (t + 1) = bsN n t + n / 2 ^ t % 2 := rfl
    have hm : bsN n (t + 1) ≤ bsN n 16 := by
      have := bs_mono n (16 - (t + 1)) (t + 1)
      rw [show t + 1 + (16 - (t + 1)) = 16 by omega] at this
      exact this
    have h2 := Nat.mod_lt (n / 2 ^ t) (show 0 < 2 by omega)
    unfold lsG
    by_cases h0 : l = 0
    · subst h0
      rw [if_neg (show ¬ (0 : Int32) < nI 0 by decide)]
      exact ⟨f, by omega, rfl, by omega⟩
    · obtain ⟨d, rfl⟩ : ∃ d, l = d + 1 := ⟨l - 1, by omega⟩
      rw [if_pos (show (0 : Int32) < nI (d + 1) from nI_lt (a := 0) (by omega) (by omega))]
      by_cases hb : n / 2 ^ t % 2 = 1
      · have hbit : bit (nI n) (nI t) = 1 := by rw [bit_N (by omega) (by omega), hb]; rfl
        have hor : nI f ||| shlI 1 (nI t) = nI (f + 2 ^ t) := by
          rw [nI_shl (by omega), nI_or]
          congr 1
          have := Nat.two_pow_add_eq_or_of_lt hf 1
          rw [Nat.mul_one] at this
          rw [Nat.or_comm, ← this, Nat.add_comm]
        rw [if_pos hbit, pk_m1, hor, nI_1]
        obtain ⟨g, g1, g2, g3⟩ := ih (t + 1) d (f + 2 ^ t) (by omega) (by omega) (by rw [Nat.pow_succ]; omega)
        refine ⟨g, g1, g2, ?_⟩
        rw [g3, bs_add hf, if_pos (by omega)]
        omega
      · have hbit : ¬ bit (nI n) (nI t) = 1 := by
          rw [bit_N (by omega) (by omega), show n / 2 ^ t % 2 = 0 by omega]; decide
        rw [if_neg hbit, nI_1]
        obtain ⟨g, g1, g2, g3⟩ := ih (t + 1) (d + 1) f (by omega) (by omega) (by rw [Nat.pow_succ]; omega)
        refine ⟨g, g1, g2, ?_⟩
        rw [g3]
        omega
theorem least_bits {x : Int32} (hx : S16 x) {T : Nat} (hT : T ≤ 50) : bcF (leastF x (nI T)) = if bitsF x < nI T then bitsF x else nI T := by
  obtain ⟨n, hn, rfl⟩ := hx
  obtain ⟨g, g1, g2, g3⟩ := ls_bits hn 16 0 T 0 rfl (by omega) (by decide)
  have e : leastF (nI n) (nI T) = nI g := g2
  have e2 : bitsF (nI n) = nI (bsN n 16) := bsum_N (by omega) 16 (by omega)
  have hz : bsN 0 16 = 0 := bs_zero 16
  have hz2 : bsN n 0 = 0 := rfl
  have hle := bsN_le n 16
  rw [e, bcF_N g1, bc_bs g1, e2, g3, hz, hz2]
  by_cases h : bsN n 16 < T
  · rw [if_pos (nI_lt h (by omega))]; congr 1; omega
  · rw [if_neg (nI_nlt (by omega) (by omega))]; congr 1; omega
theorem taught_loop {N M p T : Nat} {CC : Nat → Nat → List Int32} {wc0 wr0 wr : Mem} (hB0 : Bo 0 N M CC wc0 wr0) (hp : p < N) (hT : T ≤ 50) (hTk : ∃ w, f_X5_takesOf (nI p) wr0 = some (nI T, w)) (hr : ScR wr0 wr) (x2 : Int32) (kc kr : Int32 → Int32 → Mem → Option (Int32 × Mem)) : ∀ (r q n : Nat) (x3 x4 : Int32) (wc : Mem), q + r = N → r < n → ScC wc0 wc → ∃ (y3 y4 : Int32) (wc' : Mem), h_X4_taught_34 (nI p) x2 kc n x3 x4 (nI q) wc = kc y3 y4 wc' ∧ h_X5_taught_38 (nI p) x2 (nI T) kr n x3 x4 (nI q) wr = kr y3 y4 wr ∧ ScC wc0 wc' := by
  obtain ⟨g1, g2, g3, g4, g5, g6, g7, g8⟩ := hB0.1
  have ip : inB (nI (3 * p)) 18 := nI_in (by omega) (by omega)
  have tp : tn (nI (3 * p)) = 3 * p := nI_clamp (by omega)
  intro r
  induction r with
  | zero =>
    intro q n x3 x4 wc hq hn sc
    obtain ⟨n, rfl⟩ : ∃ m, n = m + 1 := ⟨n - 1, by omega⟩
    refine ⟨x3, x4, wc, ?_, ?_, sc⟩
    · unfold h_X4_taught_34
      rw [sc 0 0 2 (by decide) (by decide), g2, if_neg (nI_nlt (by omega) (by omega))]
    · unfold h_X5_taught_38
      rw [hr 5 0 0 (by decide) (by decide), g3, if_neg (nI_nlt (by omega) (by omega))]
  | succ r ih =>
    intro q n x3 x4 wc hq hn sc
    obtain ⟨n, rfl⟩ : ∃ m, n = m + 1 := ⟨n - 1, by omega⟩
    have iq : inB (nI (3 * q)) 18 := nI_in (by omega) (by omega)
    have tq : tn (nI (3 * q)) = 3 * q := nI_clamp (by omega)
    have key : ∀ (s : Int32) (wc : Mem), ScC wc0 wc → ∃ (y3 y4 : Int32) (wc' : Mem), j_X4_taught_69 (h_X4_taught_34 (nI p) x2 kc n) (nI p) x2 x3 x4 (nI q) s wc = kc y3 y4 wc' ∧ j_X5_taught_94 (h_X5_taught_38 (nI p) x2 (nI T) kr n) (nI p) x2 (nI T) x3 x4 (nI q) s wr = kr y3 y4 wr ∧ ScC wc0 wc' := by
      intro s wc sc
      unfold j_X4_taught_69 j_X5_taught_94 j_X5_taught_110
      rw [nI_1]
      by_cases h : s ≤ x4
      · rw [if_pos h, if_pos h, if_pos h]
        exact ih (q + 1) n x3 x4 wc (by omega) (by omega) sc
      · rw [if_neg h, if_neg h, if_neg h]
        exact ih (q + 1) n (nI q) s wc (by omega) (by omega) sc
    unfold h_X4_taught_34 h_X5_taught_38
    rw [sc 0 0 2 (by decide) (by decide), g2, if_pos (nI_lt (by omega) (by omega)), hr 5 0 0 (by decide) (by decide), g3, if_pos (nI_lt (by omega) (by omega)), m3, m3, if_pos iq, if_pos ip, tq, tp, hr 22 0 _ (by decide) (by decide), hr 22 0 _ (by decide) (by decide)]
    unfold j_X5_taught_80
    by_cases hqp : nI q = nI p
    · rw [if_pos hqp, if_pos hqp]
      by_cases h0 : (0 : Int32) < nI T
      · rw [if_pos h0]
        exact key 0 wc sc
      · have hT0 : T = 0 := by
          by_cases hh : T = 0
          · exact hh
          · exact absurd (nI_lt (a := 0) (b := T) (by omega) (by omega)) h0
        subst hT0
        rw [if_neg h0]
        exact key 0 wc sc
    · rw [if_neg hqp, if_neg hqp]
      obtain ⟨T', wc2, wr2, hT', c2, ⟨w2, e2, -⟩, -, sc2, -⟩ := learns_both (hB0.sc sc .rf) (a := q) (b := p) (by omega) hp
      obtain ⟨w3, e3⟩ := hTk
      have hTT : T' = T := by
        rw [e2] at e3
        have := congrArg (fun z => z.1) (Option.some.inj e3)
        exact (nI_eq (by omega) (by omega)).mp this
      subst hTT
      have hS : S16 (wr0 22 0 (3 * q) &&& (wr0 22 0 (3 * p) ^^^ (-1))) := ((g8 q (by omega)).2.2.2.2.2.1).andl _
      rw [c2, ob]
      dsimp only
      rw [least_bits hS hT]
      by_cases hl : bitsF (wr0 22 0 (3 * q) &&& (wr0 22 0 (3 * p) ^^^ (-1))) < nI T'
      · rw [if_pos hl, if_pos hl]
        exact key _ wc2 (sc.tr sc2)
      · rw [if_neg hl, if_neg hl]
        exact key _ wc2 (sc.tr sc2)
theorem b_taught (a1 a2 : Int32) : Both (f_X4_taught a1 a2) (f_X5_taught a1 a2) := by
  intro wc wr hR
  obtain ⟨N, M, CC, hB, hT, hS, hP, hI⟩ := id hR
  show Out wc wr _ _
  unfold f_X4_taught f_X5_taught
  rcases hasx hB a1 with ⟨a, b⟩ | ⟨p, hp, hp6, rfl, a, b, -⟩
  · rw [if_pos a, if_pos b]; exact .same hR _
  · rw [if_neg a, if_neg b]
    obtain ⟨v, -, wr1, -, r1, -, sr, T, hT50, rfl⟩ := takes_both hB hp
    obtain ⟨y3, y4, wc', e1, e2, sc⟩ := taught_loop hB hp hT50 ⟨wr1, r1⟩ sr a2 (fun x3_7 x4_8 w9 => if a2 = 0 then (some (x3_7, w9)) else (some (x4_8, w9))) (fun x4_11 x5_12 w13 => if a2 = 0 then (some (x4_11, w13)) else (some (x5_12, w13))) N 0 FU (-1) 0 wc (by omega) (by show N < 1000000; have := hB.1.1; omega) .rf
    rw [show nI 0 = 0 from rfl] at e1 e2
    unfold j_X4_taught_26
    rw [r1, ob, e1]
    dsimp only
    rw [e2]
    rcases rng_01c (x := a2) with ⟨h1, h2, h3⟩ | ⟨rfl, h1⟩ | ⟨rfl, h1⟩
    · rw [if_neg h2, if_neg h3, if_pos h1]; exact .same hR _
    · rw [if_pos rfl, if_neg h1, if_pos rfl]
      exact ⟨_, _, _, rfl, rfl, hR.q sc.q sr.q, sc.f, sr.f⟩
    · rw [if_neg (show ¬ (1 : Int32) = 0 by decide), if_pos rfl, if_neg h1, if_neg (show ¬ (1 : Int32) = 0 by decide), if_neg (show ¬ (1 : Int32) = 0 by decide)]
      exact ⟨_, _, _, rfl, rfl, hR.q sc.q sr.q, sc.f, sr.f⟩
theorem any_loop {i N M : Nat} {CC : Nat → Nat → List Int32} {wc wr : Mem} (hB : Bo i N M CC wc wr) : ∀ (r q n : Nat) (acc : Int32), q + r = N → r < n → S16 acc → ∃ any, S16 any ∧ h_X0_knownToAny_4 i (fun x1_2 w3 => some (x1_2, w3)) n acc (nI q) wc = some (any, wc) ∧ h_X5_lotSeasons_98 (fun x w => some (x, w)) n acc (nI q) wr = some (any, wr) ∧ ∀ t, t < 16 → (bit acc (nI t) = 1 → bit any (nI t) = 1) ∧ ∃ z : Int32, h_X5_isNow_20 (nI t) (fun w6 => some (0, w6)) n (nI q) wr = some (z, wr) ∧ (z = 0 ∨ z = 1) ∧ (bit any (nI t) = 1 ↔ bit acc (nI t) = 1 ∨ z = 1) := by
  obtain ⟨g1, g2, g3, g4, g5, g6, g7, g8⟩ := hB.1
  intro r
  induction r with
  | zero =>
    intro q n acc hq hn ha
    obtain ⟨n, rfl⟩ : ∃ m, n = m + 1 := ⟨n - 1, by omega⟩
    refine ⟨acc, ha, ?_, ?_, fun t ht => ⟨id, 0, ?_, Or.inl rfl, ⟨Or.inl, fun h => h.resolve_right (by decide)⟩⟩⟩
    · unfold h_X0_knownToAny_4
      rw [g2, if_neg (nI_nlt (by omega) (by omega))]
    · unfold h_X5_lotSeasons_98
      rw [g3, if_neg (nI_nlt (by omega) (by omega))]
    · unfold h_X5_isNow_20
      rw [g3, if_neg (nI_nlt (by omega) (by omega))]
  | succ r ih =>
    intro q n acc hq hn ha
    obtain ⟨n, rfl⟩ : ∃ m, n = m + 1 := ⟨n - 1, by omega⟩
    have iq : inB (nI (3 * q)) 18 := nI_in (by omega) (by omega)
    have tq : tn (nI (3 * q)) = 3 * q := nI_clamp (by omega)
    have e15 : atV wc 15 i (nI q) = wr 22 0 (3 * q) := (atV_n wc i (show q < lenK 15 by show q < 6; omega) (by decide)).trans (g8 q (by omega)).2.2.1
    have hk : S16 (wr 22 0 (3 * q)) := (g8 q (by omega)).2.2.2.2.2.1
    obtain ⟨any, h1, h2, h3, h4⟩ := ih (q + 1) n (acc ||| wr 22 0 (3 * q)) (by omega) (by omega) (ha.or hk)
    refine ⟨any, h1, ?_, ?_, fun t ht => ?_⟩
    · unfold h_X0_knownToAny_4
      rw [g2, if_pos (nI_lt (by omega) (by omega)), e15, nI_1]
      exact h2
    · unfold h_X5_lotSeasons_98
      rw [g3, if_pos (nI_lt (by omega) (by omega)), m3, if_pos iq, tq, nI_1]
      exact h3
    · obtain ⟨m1, z, m2, m3', m4⟩ := h4 t ht
      have ho := bit_or ha hk ht
      refine ⟨fun h => m1 (ho.mpr (Or.inl h)), ?_⟩
      by_cases hb : bit (wr 22 0 (3 * q)) (nI t) = 1
      · refine ⟨1, ?_, Or.inr rfl, ⟨fun _ => Or.inr rfl, fun _ => m1 (ho.mpr (Or.inr hb))⟩⟩
        unfold h_X5_isNow_20
        rw [g3, if_pos (nI_lt (by omega) (by omega)), m3, if_pos iq, tq, if_pos (show (shrI (wr 22 0 (3 * q)) (nI t)) &&& 1 = 1 from hb)]
      · refine ⟨z, ?_, m3', ?_⟩
        · unfold h_X5_isNow_20
          rw [g3, if_pos (nI_lt (by omega) (by omega)), m3, if_pos iq, tq, if_neg (show ¬ (shrI (wr 22 0 (3 * q)) (nI t)) &&& 1 = 1 from hb), nI_1]
          exact m2
        · rw [m4, ho]
          constructor
          · rintro ((h | h) | h)
            · exact Or.inl h
            · exact absurd h hb
            · exact Or.inr h
          · rintro (h | h)
            · exact Or.inl (Or.inl h)
            · exact Or.inr h
