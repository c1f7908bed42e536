/-! by how few lessons: both sides -/
theorem scan_no {N M p t m : Nat} {CC : Nat → Nat → List Int32} {wc wr : Mem} {K : Nat → Int32} (hB : Bo 1 N M CC wc wr) (hp : p < N) (ht : t < 16) (hm : m ≤ 3) (hK : KS N K) (hno : Non wc N p t m K (36 ^ m)) (kk : Mem → Option (Int32 × Mem)) : ∀ (r j n : Nat) (w : Mem), j + r = 36 ^ m → r < n → QR (wrp N wr K) w → ∃ w', h_X5_fewestLessons_14 (nI p) (nI t) (nI (36 ^ m)) (nI m) kk n (nI j) w = kk w' ∧ QR (wrp N wr K) w' ∧ FR w w' := by
  have hb : 36 ^ m ≤ 36 ^ 3 := Nat.pow_le_pow_right (by omega) hm
  intro r
  induction r with
  | zero =>
    intro j n w hj hn hw
    obtain ⟨n, rfl⟩ : ∃ x, n = x + 1 := ⟨n - 1, by omega⟩
    refine ⟨w, ?_, hw, .rf⟩
    unfold h_X5_fewestLessons_14
    rw [if_neg (nI_nlt (by omega) (by omega))]
  | succ r ih =>
    intro j n w hj hn hw
    obtain ⟨n, rfl⟩ : ∃ x, n = x + 1 := ⟨n - 1, by omega⟩
    obtain ⟨z, w3, b1, b2, b3, -, b5⟩ := knows_r hB hp ht hm hK (num := j) (by omega) hw
    have hz := b5 (hno j (by omega))
    subst hz
    obtain ⟨w', c1, c2, c3⟩ := ih (j + 1) n w3 (by omega) (by omega) b2
    refine ⟨w', ?_, c2, b3.tr c3⟩
    unfold h_X5_fewestLessons_14
    rw [if_pos (nI_lt (by omega) (by omega)), b1, ob, nI_1]
    exact c1
theorem scan_yes {N M p t m num l : Nat} {CC : Nat → Nat → List Int32} {wc wr : Mem} {K : Nat → Int32} (hB : Bo 1 N M CC wc wr) (hp : p < N) (ht : t < 16) (hm : m ≤ 3) (hK : KS N K) (hnum : num < 36 ^ m) (hl : okK wc N p t m num K = some l) (hno : ∀ x, x < num → okK wc N p t m x K = none) (kk : Mem → Option (Int32 × Mem)) : ∀ (r j n : Nat) (w : Mem), j + r = num → r < n → QR (wrp N wr K) w → ∃ w', h_X5_fewestLessons_14 (nI p) (nI t) (nI (36 ^ m)) (nI m) kk n (nI j) w = some (nI m, w') ∧ QR (wrp N wr K) w' ∧ FR w w' ∧ w' 5 0 32 = nI l := by
  have hb : 36 ^ m ≤ 36 ^ 3 := Nat.pow_le_pow_right (by omega) hm
  intro r
  induction r with
  | zero =>
    intro j n w hj hn hw
    obtain ⟨n, rfl⟩ : ∃ x, n = x + 1 := ⟨n - 1, by omega⟩
    have e : j = num := by omega
    subst e
    obtain ⟨z, w3, b1, b2, b3, b4, -⟩ := knows_r hB hp ht hm hK hnum hw
    obtain ⟨rfl, z2⟩ := b4 l hl
    refine ⟨w3, ?_, b2, b3, z2⟩
    unfold h_X5_fewestLessons_14
    rw [if_pos (nI_lt (by omega) (by omega)), b1, ob]
    rfl
  | succ r ih =>
    intro j n w hj hn hw
    obtain ⟨n, rfl⟩ : ∃ x, n = x + 1 := ⟨n - 1, by omega⟩
    obtain ⟨z, w3, b1, b2, b3, -, b5⟩ := knows_r hB hp ht hm hK (num := j) (by omega) hw
    have hz := b5 (hno j (by omega))
    subst hz
    obtain ⟨w', c1, c2, c3, c4⟩ := ih (j + 1) n w3 (by omega) (by omega) b2
    refine ⟨w', ?_, c2, b3.tr c3, c4⟩
    unfold h_X5_fewestLessons_14
    rw [if_pos (nI_lt (by omega) (by omega)), b1, ob, nI_1]
    exact c1
theorem few_loop {N M p t : Nat} {CC : Nat → Nat → List Int32} {wc wr : Mem} {K : Nat → Int32} (hB : Bo 1 N M CC wc wr) (hp : p < N) (ht : t < 16) (hK : KS N K) (x3 : Int32) : ∀ (r f n n' : Nat) (w1 w2 : Mem), f + r = 4 → 1 ≤ f → r < n → r < n' → (∀ m, m < f → Non wc N p t m K (36 ^ m)) → ScC (wcp wc K) w1 → QR (wrp N wr K) w2 → ∃ (v u : Int32) (w1' w2' : Mem), h_X4_lessons_67 (nI p) (nI t) x3 (fun w10 => some (-1, w10)) n (nI f) w1 = some (if x3 = 0 then u else v, w1') ∧ h_X5_fewestLessons_5 (nI p) (nI t) (fun w6 => some (-1, w6)) n' (nI (36 ^ f)) (nI f) w2 = some (u, w2') ∧ ((u = -1 ∧ v = -1) ∨ (u ≠ -1 ∧ w2' 5 0 32 = v)) ∧ ScC (wcp wc K) w1' ∧ QR (wrp N wr K) w2' ∧ FR w2 w2' := by
  intro r
  induction r with
  | zero =>
    intro f n n' w1 w2 hf hf1 hn hn' hno h1 h2
    obtain ⟨n, rfl⟩ : ∃ x, n = x + 1 := ⟨n - 1, by omega⟩
    obtain ⟨n', rfl⟩ : ∃ x, n' = x + 1 := ⟨n' - 1, by omega⟩
    have e : f = 4 := by omega
    subst e
    refine ⟨-1, -1, w1, w2, ?_, ?_, Or.inl ⟨rfl, rfl⟩, h1, h2, .rf⟩
    · unfold h_X4_lessons_67
      rw [if_neg (show ¬ nI 4 ≤ 3 by decide)]
      split <;> rfl
    · unfold h_X5_fewestLessons_5
      rw [if_neg (show ¬ nI 4 ≤ 3 by decide)]
  | succ r ih =>
    intro f n n' w1 w2 hf hf1 hn hn' hno h1 h2
    obtain ⟨n, rfl⟩ : ∃ x, n = x + 1 := ⟨n - 1, by omega⟩
    obtain ⟨n', rfl⟩ : ∃ x, n' = x + 1 := ⟨n' - 1, by omega⟩
    have hb : 36 ^ f ≤ 36 ^ 3 := Nat.pow_le_pow_right (by omega) (by omega)
    have h100 : 100 ^ f ≤ 100 ^ 3 := Nat.pow_le_pow_right (by omega) (by omega)
    obtain ⟨c, w1', c1, c2, c3, c4⟩ := to_c hB hp ht f (by omega) 8 K (by omega) (by omega) hK hno w1 h1
    have hf3 : nI f ≤ 3 := nI_le (b := 3) (by omega) (by omega)
    rcases c4 with ⟨rfl, c5⟩ | ⟨c5, num, c6, c7, c8⟩
    · obtain ⟨w2', d1, d2, d3⟩ := scan_no hB hp ht (m := f) (by omega) hK c5 (fun w5 => h_X5_fewestLessons_5 (nI p) (nI t) (fun w6 => some (-1, w6)) n' (nI (36 ^ f) * 36) (nI f + 1) w5) (36 ^ f) 0 FU w2 (by omega) (by show 36 ^ f < 1000000; omega) h2
      rw [show nI 0 = 0 from rfl] at d1
      obtain ⟨v, u, w3, w4, e1, e2, e3, e4, e5, e6⟩ := ih (f + 1) n n' w1' w2' (by omega) (by omega) (by omega) (by omega) (fun m hm => by
        by_cases h : m = f
        · subst h; exact c5
        · exact hno m (by omega)) c2 d2
      refine ⟨v, u, w3, w4, ?_, ?_, e3, e4, e5, d3.tr e6⟩
      · unfold h_X4_lessons_67
        rw [if_pos hf3, c1, ob, nI_1]
        dsimp only
        rw [if_pos (show nI 0 ≤ 0 by decide)]
        exact e1
      · unfold h_X5_fewestLessons_5
        rw [if_pos hf3, d1, show (36 : Int32) = nI 36 from rfl, nI_mul, ← Nat.pow_succ, nI_1]
        exact e2
    · obtain ⟨w2', d1, d2, d3, d4⟩ := scan_yes hB hp ht (m := f) (by omega) hK c6 c7 c8 (fun w5 => h_X5_fewestLessons_5 (nI p) (nI t) (fun w6 => some (-1, w6)) n' (nI (36 ^ f) * 36) (nI f + 1) w5) num 0 FU w2 (by omega) (by show num < 1000000; omega) h2
      rw [show nI 0 = 0 from rfl] at d1
      refine ⟨nI c, nI f, w1', w2', ?_, ?_, Or.inr ⟨fun z => absurd (show nI f < 0 by rw [z]; decide) (nI_pos (by omega)), d4⟩, c2, d2, d3⟩
      · unfold h_X4_lessons_67
        rw [if_pos hf3, c1, ob]
        dsimp only
        rw [if_neg (nI_nle c5 (by omega))]
        split <;> rfl
      · unfold h_X5_fewestLessons_5
        rw [if_pos hf3, d1]
theorem b_lessons (a1 a2 a3 : Int32) : Both (f_X4_lessons a1 a2 a3) (f_X5_lessons a1 a2 a3) := by
  intro wc0 wr hR
  obtain ⟨N, M, CC, hB0, hT, hS, hP, hI⟩ := id hR
  show Out wc0 wr _ _
  unfold f_X4_lessons f_X5_lessons
  rcases hasx hB0 a1 with ⟨a, b⟩ | ⟨p, hp, hp6, rfl, a, b, ip, tp, i0, t0, i1, t1, i2, t2⟩
  · rw [if_pos a, if_pos b]; exact .same hR _
  · rw [if_neg a, if_neg b]
    rcases rng_thing (x := a2) with ⟨h0, -⟩ | ⟨t, ht, rfl, h0⟩
    · rw [if_pos h0, if_pos h0]; exact .same hR _
    · rw [if_neg h0, if_neg h0]
      obtain ⟨wc, c1, as1⟩ := become_c (i := 1) (j := 0) (by decide) wc0
      have hB : Bo 1 N M CC wc wr := hB0.as as1
      have hN := hB.1.1
      have hK : KS N (fun q => wc 15 1 q) := fun q hq => by
        have := hB.1.2.2.2.2.2.2.2 q hq
        show S16 (wc 15 1 q)
        rw [this.2.2.1]; exact this.2.2.2.2.2.1
      have ec : wcp wc (fun q => wc 15 1 q) = wc := by
        funext x y z
        unfold wcp
        split
        · rename_i h; rw [h.1, h.2]
        · rfl
      have er : wrp N wr (fun q => wc 15 1 q) = wr := by
        funext x y z
        unfold wrp
        split
        · rename_i h
          obtain ⟨rfl, rfl, h3, h4⟩ := h
          refine (hB.1.2.2.2.2.2.2.2 (z / 3) (by omega)).2.2.1.trans ?_
          congr 1; omega
        · rfl
      have eKp : wc 15 1 p = wr 22 0 (3 * p) := (hB.1.2.2.2.2.2.2.2 p hp).2.2.1
      have a15 : atV wc0 15 0 (nI p) = wr 22 0 (3 * p) := (atV_n wc0 0 hp6 (by decide)).trans (hB0.1.2.2.2.2.2.2.2 p hp).2.2.1
      have hok0 : okK wc N p t 0 0 (fun q => wc 15 1 q) = if bit (wr 22 0 (3 * p)) (nI t) = 1 then some 0 else none := by
        unfold okK
        rw [show (fun q => wc 15 1 q) p = wr 22 0 (3 * p) from eKp]
      unfold j_X4_lessons_33
      rw [a15, c1]
      -- the reference's first number
      have main : ∃ (v u : Int32) (w1' w2' : Mem), (if holdsF (wr 22 0 (3 * p)) (nI t) = 0 then Option.bind (some wc) (fun r5 => h_X4_lessons_67 (nI p) (nI t) a3 (fun w10 => some (-1, w10)) FU 1 r5) else some (0, wc0)) = some (if a3 = 0 then u else v, w1') ∧ f_X5_fewestLessons (nI p) (nI t) wr = some (u, w2') ∧ ((u = -1 ∧ v = -1) ∨ (u ≠ -1 ∧ w2' 5 0 32 = v)) ∧ QC wc0 w1' ∧ FC wc0 w1' ∧ QR wr w2' ∧ FR wr w2' := by
        have q0 : QR (wrp N wr (fun q => wc 15 1 q)) wr := by rw [er]; exact .rf
        have hF : ∃ n, FU = n + 1 := ⟨999999, rfl⟩
        obtain ⟨n, hF⟩ := hF
        have hn : n = 999999 := by have : (1000000 : Nat) = n + 1 := hF; omega
        by_cases hb : bit (wr 22 0 (3 * p)) (nI t) = 1
        · rw [if_neg (fun z => (holdsF_k ht).mp z hb)]
          rw [if_pos hb] at hok0
          obtain ⟨w2', d1, d2, d3, d4⟩ := scan_yes hB hp ht (m := 0) (by omega) hK (num := 0) (by decide) hok0 (fun x hx => by omega) (fun w5 => h_X5_fewestLessons_5 (nI p) (nI t) (fun w6 => some (-1, w6)) n (1 * 36) (0 + 1) w5) 0 0 FU wr (by omega) (by show 0 < 1000000; omega) q0
          rw [er] at d2
          refine ⟨0, 0, wc0, w2', by rw [ite_self], ?_, Or.inr ⟨by decide, d4⟩, .rf, .rf, d2, d3⟩
          unfold f_X5_fewestLessons
          rw [hF]
          unfold h_X5_fewestLessons_5
          rw [if_pos (show (0 : Int32) ≤ 3 by decide)]
          exact d1
        · rw [if_pos ((holdsF_k ht).mpr hb), ob]
          rw [if_neg hb] at hok0
          have hno0 : Non wc N p t 0 (fun q => wc 15 1 q) (36 ^ 0) := fun x hx => by
            have : x = 0 := by have : x < 1 := hx; omega
            subst this; exact hok0
          obtain ⟨w2', d1, d2, d3⟩ := scan_no hB hp ht (m := 0) (by omega) hK hno0 (fun w5 => h_X5_fewestLessons_5 (nI p) (nI t) (fun w6 => some (-1, w6)) n (1 * 36) (0 + 1) w5) 1 0 FU wr (by decide) (by show 1 < 1000000; omega) q0
          obtain ⟨v, u, w3, w4, e1, e2, e3, e4, e5, e6⟩ := few_loop hB hp ht hK a3 3 1 FU n wc w2' (by omega) (by omega) (by show 3 < 1000000; omega) (by omega) (fun m hm => by
            have : m = 0 := by omega
            subst this; exact hno0) (by rw [ec]; exact .rf) d2
          rw [ec] at e4
          rw [er] at e5
          refine ⟨v, u, w3, w4, e1, ?_, e3, as1.2.2.th.q.tr e4.q, as1.2.2.th.f.tr e4.f, e5, d3.tr e6⟩
          unfold f_X5_fewestLessons
          rw [hF]
          unfold h_X5_fewestLessons_5
          rw [if_pos (show (0 : Int32) ≤ 3 by decide)]
          exact d1.trans e2
      obtain ⟨v, u, w1', w2', m1, m2, m3', m4, m5, m6, m7⟩ := main
      rw [m1, m2, ob]
      dsimp only
      have hR' : R w1' w2' := hR.q m4 m6
      rcases rng_01c (x := a3) with ⟨h1, h2, h3⟩ | ⟨rfl, h1⟩ | ⟨rfl, h1⟩
      · rw [if_neg h2, if_neg h3, if_pos h1]; exact .same hR _
      · rw [if_pos rfl, if_pos rfl, if_neg h1, if_pos rfl]
        exact ⟨_, _, _, rfl, rfl, hR', m5, m7⟩
      · rw [if_neg (show ¬ (1 : Int32) = 0 by decide), if_pos rfl, if_neg (show ¬ (1 : Int32) = 0 by decide), if_neg h1, if_neg (show ¬ (1 : Int32) = 0 by decide)]
        rcases m3' with ⟨rfl, rfl⟩ | ⟨hu, hv⟩
        · rw [if_pos rfl]
          exact ⟨_, _, _, rfl, rfl, hR', m5, m7⟩
        · rw [if_neg hu, hv]
          exact ⟨_, _, _, rfl, rfl, hR', m5, m7⟩
