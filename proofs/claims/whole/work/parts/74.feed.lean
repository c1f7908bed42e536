/-! text, feed: both sides -/
theorem b_text : Both f_X4_text f_X5_text := by
  intro wc wr hR
  obtain ⟨N, M, CC, hB, hT, hS, hP, hI⟩ := id hR
  show Out wc wr _ _
  obtain ⟨n, hn, p1, p2, p3, p4⟩ := id hP
  obtain ⟨hM6, hm1, hm2, hTx⟩ := id hB.2.1
  unfold f_X4_text f_X5_text
  rw [hm1, hm2]
  by_cases h6 : M = 6
  · subst h6
    rw [if_neg (show ¬ nI 6 < 6 by decide), if_pos (show nI 6 = 6 from rfl)]; exact .same hR _
  · have ht : M < 6 := by omega
    rw [if_pos (show nI M < 6 from nI_lt (b := 6) ht (by omega)), if_neg (show ¬ nI M = 6 from fun z => h6 ((nI_eq (b := 6) (by omega) (by omega)).mp z))]
    have hTc : TpC (fun i => wc 9 0 i) n wc := ⟨hn, p1, fun i _ => rfl⟩
    have hTr : TpR (fun i => wc 9 0 i) n wr := ⟨hn, p2, fun i hi => (p3 i hi).1.symm, p4⟩
    have hb : Byt (fun i => wc 9 0 i) n := fun i hi => by
      obtain ⟨e, b, hb, e2⟩ := p3 i hi
      exact ⟨b, hb, e.trans e2⟩
    have eK : h_X5_text_26 (fun x1_11 w12 => j_X5_text_101 x1_11 w12) FU 1 0 (up (up wr 5 0 19 0) 5 0 27 0) = h_X5_text_26 K101 FU 1 0 (up (up wr 5 0 19 0) 5 0 27 0) := by
      unfold K101
      rfl
    rw [eK]
    rcases read_both hb hn ht hTc hTr hm2 with ⟨q, wc2, wr2, hq, e1, e2, fc, fr⟩ | ⟨C, wc2, wr2, e1, e2, fc, fr, c1, c2, c3⟩
    · rw [e1, e2, ob]
      dsimp only
      rw [if_neg (nI_pos (by omega))]
      refine ⟨_, _, _, rfl, rfl, R.tx (M' := M) (CC' := CC) hB hT hS hP hI ⟨hM6, ?_, ?_, fun t h => (hTx t h).of2 (fun c hc => ?_) (fun c hc => ?_) (fun c hc => ?_) (fun c hc => ?_)⟩ (Nat.le_refl _) (fun x y z h => ?_) (up_s _ _ _ _ _) (fun c h => ?_) (up_s _ _ _ _ _) (fun x z h => ?_), fun a b c ha => ?_, fun a b c ha => ?_⟩
      · rw [up_k (by decide), fc 3 0 0 (by omega) (by omega) (by omega)]; exact hm1
      · rw [up_j (by decide), up_k (by decide), fr 5 0 10 (by omega) (by omega) (by omega) (by omega)]; exact hm2
      · rw [up_k (by decide), fc 6 0 c (by omega) (by omega) (by omega)]
      · rw [up_k (by decide), fc 7 0 c (by omega) (by omega) (by omega)]
      · rw [up_k (by decide), up_k (by decide), fr 24 0 c (by omega) (by omega) (by omega) (by omega)]
      · rw [up_k (by decide), up_j (by omega), fr 25 0 c (by omega) (by omega) (by omega) (by omega)]
      · rw [up_k (by omega), fc x y z (by omega) (by omega) (by omega)]
      · rw [up_j (by omega), up_k (by decide), fr 5 0 c (by omega) (by omega) (by omega) (by omega)]
      · rw [up_k (by omega), up_k (by omega), fr x 0 z (by omega) (by omega) (by omega) (by omega)]
      · rw [up_k (by omega), fc a b c (by omega) (by omega) (by omega)]
      · rw [up_k (by omega), up_k (by omega), fr a b c (by omega) (by omega) (by omega) (by omega)]
    · rw [e1, e2, ob]
      dsimp only
      rw [if_pos (show (-1 : Int32) < 0 by decide)]
      obtain ⟨wc3, a1, a2, a3, a4, a5⟩ := add_c ht (w := up wc2 1 0 1 0) (by rw [up_k (by decide), fc 3 0 0 (by omega) (by omega) (by omega)]; exact hm1)
      rw [a1, ob]
      dsimp only
      refine ⟨_, _, _, rfl, rfl, R.tx (M' := M + 1) (CC' := fun t => if t = M then C else CC t) hB hT hS hP hI ⟨by omega, a4, up_s _ _ _ _ _, fun t h => ?_⟩ (by omega) (fun x y z h => ?_) ?_ (fun c h => ?_) ?_ (fun x z h => ?_), fun a b c ha => ?_, fun a b c ha => ?_⟩
      · dsimp only
        by_cases htM : t = M
        · subst htM
          rw [if_pos rfl]
          refine ⟨c1, fun q hq => ?_⟩
          obtain ⟨d1, d2, d3, d4⟩ := c3 q hq
          have hle := off_le (C := C) hq
          have e7 : off C (q + 1) = off C q + (C q).length := rfl
          refine ⟨?_, fun j hj => ?_, ?_, ?_, fun j hj => ?_, d3⟩
          · rw [a3 q hq, up_k (by decide), d1, nI_add]
          · rw [Nat.add_assoc, a2 _ (by omega), up_k (by decide)]
            exact (d4 j hj).1
          · rw [up_k (by decide), up_k (by decide), up_j (by omega)]; exact d2
          · rw [up_k (by decide), up_k (by decide)]
            by_cases hq2 : q = 2
            · subst hq2
              rw [show 4 * t + 2 + 1 = 4 * t + 3 by omega, up_s]; exact c2
            · rw [up_j (by omega), show 4 * t + q + 1 = 4 * t + (q + 1) by omega]
              exact (c3 (q + 1) (by omega)).2.1
          · rw [up_k (by decide), up_k (by decide), up_k (by decide), Nat.add_assoc]
            exact (d4 j hj).2
        · rw [if_neg htM]
          refine (hTx t (by omega)).of2 (fun c hc => ?_) (fun c hc => ?_) (fun c hc => ?_) (fun c hc => ?_)
          · rw [a5 6 0 c (by omega) (by omega) (by omega), up_k (by decide), fc 6 0 c (by omega) (by omega) (by omega)]
          · rw [a5 7 0 c (by omega) (by omega) (by omega), up_k (by decide), fc 7 0 c (by omega) (by omega) (by omega)]
          · rw [up_k (by decide), up_k (by decide), up_k (by decide), fr 24 0 c (by omega) (by omega) (by omega) (by omega)]
          · rw [up_k (by decide), up_k (by decide), up_j (by omega), fr 25 0 c (by omega) (by omega) (by omega) (by omega)]
      · rw [a5 x y z (by omega) (by omega) (by omega), up_k (by omega), fc x y z (by omega) (by omega) (by omega)]
      · rw [a5 1 0 1 (by omega) (by omega) (by omega), up_s]
      · rw [up_j (by omega), up_j (by omega), up_k (by decide), fr 5 0 c (by omega) (by omega) (by omega) (by omega)]
      · rw [up_j (by decide), up_s]
      · rw [up_k (by omega), up_k (by omega), up_k (by omega), fr x 0 z (by omega) (by omega) (by omega) (by omega)]
      · rw [a5 a b c (by omega) (by omega) (by omega), up_k (by omega), fc a b c (by omega) (by omega) (by omega)]
      · rw [up_k (by omega), up_k (by omega), up_k (by omega), fr a b c (by omega) (by omega) (by omega) (by omega)]
/-- one byte comes -/
theorem R.byte {wc wr : Mem} (hR : R wc wr) {m : Nat} (hm : m < 160) (h1 : wc 1 0 1 = nI m) {v : Int32} (hv : 0 ≤ v ∧ v ≤ 255) : f_X1_add v wc = some (up (up wc 9 0 m v) 1 0 1 (nI (m + 1))) ∧ wr 5 0 7 = nI m ∧ R (up (up wc 9 0 m v) 1 0 1 (nI (m + 1))) (up (up wr 23 0 m v) 5 0 7 (nI (m + 1))) := by
  obtain ⟨N, M, CC, hB, hT, hS, ⟨n, hn, p1, p2, p3, p4⟩, hI⟩ := id hR
  have e : n = m := by
    rw [p1] at h1
    exact (nI_eq (by omega) (by omega)).mp h1
  subst e
  refine ⟨?_, p2, N, M, CC, ⟨hB.1.of (fun c => by rw [up_k (by decide), up_k (by decide)]) (fun a c ha => by rw [up_k (by omega), up_k (by omega)]) (fun c hc => by rw [up_j (by omega), up_k (by decide)]) (fun c _ => by rw [up_k (by decide), up_k (by decide)]) (fun c => by rw [up_k (by decide), up_k (by decide)]) (fun c => by rw [up_k (by decide), up_k (by decide)]), hB.2.1.of (by rw [up_k (by decide), up_k (by decide)]) (fun c => by rw [up_k (by decide), up_k (by decide)]) (fun c => by rw [up_k (by decide), up_k (by decide)]) (by rw [up_j (by decide), up_k (by decide)]) (fun c => by rw [up_k (by decide), up_k (by decide)]) (fun c => by rw [up_k (by decide), up_k (by decide)]), hB.2.2.of (by rw [up_j (by decide), up_k (by decide)])⟩, by rw [up_j (by decide), up_k (by decide)]; exact hT, hS.of (fun s c => by rw [up_k (by decide), up_k (by decide)]) (fun s c => by rw [up_k (by decide), up_k (by decide)]) (fun a c h1 h2 => by rw [up_k (by omega), up_k (by omega)]), ⟨n + 1, by omega, up_s _ _ _ _ _, up_s _ _ _ _ _, fun k hk => ?_, fun c hc => by rw [up_k (by decide), up_k (by decide)]; exact p4 c hc⟩, hI.of (Nat.le_refl _) (Nat.le_refl _) (by rw [up_k (by decide), up_k (by decide)]) (by rw [up_j (by decide), up_k (by decide)]) (fun c => by rw [up_k (by decide), up_k (by decide)]) (fun a c ha => by rw [up_k (by omega), up_k (by omega)]) (fun c => by rw [up_k (by decide), up_k (by decide)]) (fun c => by rw [up_k (by decide), up_k (by decide)]) (fun c _ => by rw [up_k (by decide), up_k (by decide)]) (fun c _ => by rw [up_k (by decide), up_k (by decide)])⟩
  · unfold f_X1_add
    rw [p1, if_pos (show nI n < 160 from nI_lt (b := 160) hm (by omega)), setV_n wc 0 v (show n < lenK 9 from hm) (by decide), up_k (show (1 : Nat) ≠ 9 by decide), p1, nI_1]
  · rw [up_k (show (9 : Nat) ≠ 1 by decide), up_k (show (23 : Nat) ≠ 5 by decide)]
    by_cases e : k = n
    · subst e
      rw [up_s, up_s]
      obtain ⟨b, hb, eb⟩ := nI_of2 (M := 255) (n := 255) rfl (Int32.not_lt.mpr hv.1) hv.2
      exact ⟨rfl, b, by omega, eb⟩
    · rw [up_j e, up_j e]
      exact p3 k (by omega)
theorem b_feed (a1 a2 a3 a4 a5 a6 : Int32) : Both (f_X4_feed a1 a2 a3 a4 a5 a6) (f_X5_feed a1 a2 a3 a4 a5 a6) := by
  intro wc wr hR
  obtain ⟨N, M, CC, hB, hT, hS, ⟨n, hn, p1, p2, p3, p4⟩, hI⟩ := id hR
  show Out wc wr _ _
  unfold f_X4_feed f_X5_feed
  by_cases h1 : 1 ≤ a1 ∧ a1 ≤ 5
  · rw [if_neg (Int32.not_lt.mpr h1.1), if_pos h1.2, if_neg (fun z => rng_0.mp z h1)]
    have hn0 : ¬ a1 < 0 := Int32.not_lt.mpr (Int32.le_trans (show (0 : Int32) ≤ 1 by decide) h1.1)
    obtain ⟨m, hm5, rfl⟩ := nI_of2 (M := 5) (n := 5) rfl hn0 h1.2
    have hm1 : 1 ≤ m := by
      rcases Nat.eq_zero_or_pos m with h | h
      · subst h; exact absurd h1.1 (by decide)
      · exact h
    by_cases v2 : rng a2 0 255 = 0
    · rw [if_pos v2, if_pos v2]; exact .same hR _
    rw [if_neg v2, if_neg v2]
    by_cases v3 : rng a3 0 255 = 0
    · rw [if_pos v3, if_pos v3]; exact .same hR _
    rw [if_neg v3, if_neg v3]
    by_cases v4 : rng a4 0 255 = 0
    · rw [if_pos v4, if_pos v4]; exact .same hR _
    rw [if_neg v4, if_neg v4]
    by_cases v5 : rng a5 0 255 = 0
    · rw [if_pos v5, if_pos v5]; exact .same hR _
    rw [if_neg v5, if_neg v5]
    by_cases v6 : rng a6 0 255 = 0
    · rw [if_pos v6, if_pos v6]; exact .same hR _
    rw [if_neg v6, if_neg v6, p1, p2, nI_add]
    by_cases hfull : n + m ≤ 160
    · rw [if_pos (show nI (n + m) ≤ 160 from nI_le (b := 160) hfull (by omega)), if_pos (show nI (n + m) ≤ 160 from nI_le (b := 160) hfull (by omega))]
      -- a byte, both sides
      let vs : Nat → Int32 := fun k => if k = 0 then a2 else if k = 1 then a3 else if k = 2 then a4 else if k = 3 then a5 else a6
      have hvs : ∀ k, 0 ≤ vs k ∧ vs k ≤ 255 := by
        intro k
        show 0 ≤ (if k = 0 then a2 else if k = 1 then a3 else if k = 2 then a4 else if k = 3 then a5 else a6) ∧ (if k = 0 then a2 else if k = 1 then a3 else if k = 2 then a4 else if k = 3 then a5 else a6) ≤ 255
        split
        · exact rng_t v2
        · split
          · exact rng_t v3
          · split
            · exact rng_t v4
            · split
              · exact rng_t v5
              · exact rng_t v6
      let WC : Nat → Mem := fun k => Nat.rec wc (fun j w => up (up w 9 0 (n + j) (vs j)) 1 0 1 (nI (n + j + 1))) k
      let WR : Nat → Mem := fun k => Nat.rec wr (fun j w => up (up w 23 0 (n + j) (vs j)) 5 0 7 (nI (n + j + 1))) k
      have wcs : ∀ k, WC (k + 1) = up (up (WC k) 9 0 (n + k) (vs k)) 1 0 1 (nI (n + k + 1)) := fun k => rfl
      have wrs : ∀ k, WR (k + 1) = up (up (WR k) 23 0 (n + k) (vs k)) 5 0 7 (nI (n + k + 1)) := fun k => rfl
      have all : ∀ k, k ≤ m → R (WC k) (WR k) ∧ WC k 1 0 1 = nI (n + k) ∧ FC wc (WC k) ∧ FR wr (WR k) := by
        intro k
        induction k with
        | zero => intro _; exact ⟨hR, p1, .rf, .rf⟩
        | succ k ih =>
          intro hk
          obtain ⟨g1, g2, g3, g4⟩ := ih (by omega)
          obtain ⟨-, -, h3⟩ := R.byte g1 (m := n + k) (by omega) g2 (hvs k)
          rw [wcs, wrs]
          exact ⟨h3, up_s _ _ _ _ _, (g3.up (by omega)).up (by omega), (g4.up (by omega)).up (by omega)⟩
      have add : ∀ k, k < m → f_X1_add (vs k) (WC k) = some (WC (k + 1)) := fun k hk => by
        obtain ⟨g1, g2, -, -⟩ := all k (by omega)
        rw [wcs]
        exact (R.byte g1 (m := n + k) (by omega) g2 (hvs k)).1
      have h7 : ∀ k, k ≤ m → WR k 5 0 7 = nI (n + k) := fun k hk => by
        obtain ⟨g1, g2, -, -⟩ := all k hk
        obtain ⟨-, -, -, -, -, -, ⟨n', -, q1, q2, -⟩, -⟩ := g1
        rw [q1] at g2
        rw [q2]; exact g2
      -- the reference's loop
      have loop : ∀ (r k x : Nat), k + r = m → r < x → h_X5_feed_68 (nI m) a2 a3 a4 a5 a6 (fun w14 => some (w14 5 0 7, w14)) x (nI k) (WR k) = some (nI (n + m), WR m) := by
        intro r
        induction r with
        | zero =>
          intro k x hk hx
          obtain ⟨x, rfl⟩ : ∃ y, x = y + 1 := ⟨x - 1, by omega⟩
          have e : k = m := by omega
          subst e
          unfold h_X5_feed_68
          rw [if_neg (nI_nlt (Nat.le_refl _) (by omega)), h7 k (Nat.le_refl _)]
        | succ r ih =>
          intro k x hk hx
          obtain ⟨x, rfl⟩ : ∃ y, x = y + 1 := ⟨x - 1, by omega⟩
          have ik : inB (nI (n + k)) 160 := nI_in (by omega) (by omega)
          have tk : tn (nI (n + k)) = n + k := nI_clamp (by omega)
          have step : ∀ v : Int32, v = vs k → j_X5_feed_125 (h_X5_feed_68 (nI m) a2 a3 a4 a5 a6 (fun w14 => some (w14 5 0 7, w14)) x) (nI m) a2 a3 a4 a5 a6 (nI k) v (WR k 5 0 7) (WR k) = some (nI (n + m), WR m) := by
            intro v hv
            subst hv
            unfold j_X5_feed_125
            rw [h7 k (by omega), if_pos ik, tk, up_k (show (5 : Nat) ≠ 23 by decide), h7 k (by omega), nI_1, nI_1, ← wrs]
            exact ih (k + 1) x (by omega) (by omega)
          unfold h_X5_feed_68
          rw [if_pos (nI_lt (by omega) (by omega))]
          match k, step with
          | 0, step => rw [if_pos (show nI 0 = 0 from rfl)]; exact step _ rfl
          | 1, step => rw [if_neg (show ¬ nI 1 = 0 by decide), if_pos (show nI 1 = 1 from rfl)]; exact step _ rfl
          | 2, step => rw [if_neg (show ¬ nI 2 = 0 by decide), if_neg (show ¬ nI 2 = 1 by decide), if_pos (show nI 2 = 2 from rfl)]; exact step _ rfl
          | 3, step => rw [if_neg (show ¬ nI 3 = 0 by decide), if_neg (show ¬ nI 3 = 1 by decide), if_neg (show ¬ nI 3 = 2 by decide), if_pos (show nI 3 = 3 from rfl)]; exact step _ rfl
          | 4, step => rw [if_neg (show ¬ nI 4 = 0 by decide), if_neg (show ¬ nI 4 = 1 by decide), if_neg (show ¬ nI 4 = 2 by decide), if_neg (show ¬ nI 4 = 3 by decide)]; exact step _ rfl
          | k + 5, _ => omega
      have hloop := loop m 0 FU (by omega) (by show m < 1000000; omega)
      rw [show nI 0 = 0 from rfl] at hloop
      have hloop2 : h_X5_feed_68 (nI m) a2 a3 a4 a5 a6 (fun w14 => some (w14 5 0 7, w14)) FU 0 wr = some (nI (n + m), WR m) := hloop
      rw [hloop2]
      have a0 : f_X1_add a2 wc = some (WC 1) := add 0 (by omega)
      have done : ∀ e : Option (Int32 × Mem), e = some (nI (n + m), WC m) → Out wc wr e (some (nI (n + m), WR m)) := by
        intro e he
        subst he
        obtain ⟨g1, -, g3, g4⟩ := all m (Nat.le_refl _)
        exact ⟨_, _, _, rfl, rfl, g1, g3, g4⟩
      refine done _ ?_
      have sz : ∀ k, k ≤ m → WC k 1 0 1 = nI (n + k) := fun k hk => (all k hk).2.1
      rw [a0, ob]
      unfold j_X4_feed_90 j_X4_feed_104 j_X4_feed_118
      match m, hm1, hm5, add, sz with
      | 1, _, _, add, sz =>
        rw [if_pos (show nI 1 ≤ 1 by decide), if_pos (show nI 1 ≤ 2 by decide), if_pos (show nI 1 ≤ 3 by decide), if_pos (show nI 1 ≤ 4 by decide), sz 1 (by omega)]
      | 2, _, _, add, sz =>
        have b1 : f_X1_add a3 (WC 1) = some (WC 2) := add 1 (by omega)
        rw [if_neg (show ¬ nI 2 ≤ 1 by decide), b1, ob, if_pos (show nI 2 ≤ 2 by decide), if_pos (show nI 2 ≤ 3 by decide), if_pos (show nI 2 ≤ 4 by decide), sz 2 (by omega)]
      | 3, _, _, add, sz =>
        have b1 : f_X1_add a3 (WC 1) = some (WC 2) := add 1 (by omega)
        have b2 : f_X1_add a4 (WC 2) = some (WC 3) := add 2 (by omega)
        rw [if_neg (show ¬ nI 3 ≤ 1 by decide), b1, ob, if_neg (show ¬ nI 3 ≤ 2 by decide), b2, ob, if_pos (show nI 3 ≤ 3 by decide), if_pos (show nI 3 ≤ 4 by decide), sz 3 (by omega)]
      | 4, _, _, add, sz =>
        have b1 : f_X1_add a3 (WC 1) = some (WC 2) := add 1 (by omega)
        have b2 : f_X1_add a4 (WC 2) = some (WC 3) := add 2 (by omega)
        have b3 : f_X1_add a5 (WC 3) = some (WC 4) := add 3 (by omega)
        rw [if_neg (show ¬ nI 4 ≤ 1 by decide), b1, ob, if_neg (show ¬ nI 4 ≤ 2 by decide), b2, ob, if_neg (show ¬ nI 4 ≤ 3 by decide), b3, ob, if_pos (show nI 4 ≤ 4 by decide), sz 4 (by omega)]
      | 5, _, _, add, sz =>
        have b1 : f_X1_add a3 (WC 1) = some (WC 2) := add 1 (by omega)
        have b2 : f_X1_add a4 (WC 2) = some (WC 3) := add 2 (by omega)
        have b3 : f_X1_add a5 (WC 3) = some (WC 4) := add 3 (by omega)
        have b4 : f_X1_add a6 (WC 4) = some (WC 5) := add 4 (by omega)
        rw [if_neg (show ¬ nI 5 ≤ 1 by decide), b1, ob, if_neg (show ¬ nI 5 ≤ 2 by decide), b2, ob, if_neg (show ¬ nI 5 ≤ 3 by decide), b3, ob, if_neg (show ¬ nI 5 ≤ 4 by decide), b4, ob, sz 5 (by omega)]
      | m + 6, _, h, _, _ => omega
    · rw [if_neg (show ¬ nI (n + m) ≤ 160 from fun z => hfull ((nI_leI (b := 160) (by omega) (by omega)).mp z)), if_neg (show ¬ nI (n + m) ≤ 160 from fun z => hfull ((nI_leI (b := 160) (by omega) (by omega)).mp z))]
      exact .same hR _
  · rw [if_pos (rng_0.mpr h1)]
    by_cases h3 : a1 < 1
    · rw [if_pos h3]; exact .same hR _
    · rw [if_neg h3, if_neg (fun z => h1 ⟨Int32.not_lt.mp h3, z⟩)]; exact .same hR _
