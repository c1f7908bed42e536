/-! fisher, fishersBy, taken: both sides -/
theorem Out.tr {V : Type} {wc wr wc' wr' : Mem} {e e' : Option (V × Mem)} (h : Out wc' wr' e e') (fc : FC wc wc') (fr : FR wr wr') : Out wc wr e e' := by
  obtain ⟨v, w1, w2, h1, h2, h3, h4, h5⟩ := h
  exact ⟨v, w1, w2, h1, h2, h3, fc.tr h4, fr.tr h5⟩
theorem b_fisher (a1 a2 : Int32) : Both (f_X4_fisher a1 a2) (f_X5_fisher a1 a2) := by
  intro wc wr hR
  obtain ⟨N, M, CC, hB, hT, hS, hP, hI⟩ := id hR
  show Out wc wr _ _
  obtain ⟨g1, g2, g3, g4, g5, g6, g7, g8⟩ := id hB.1
  unfold f_X4_fisher f_X5_fisher
  rcases rngc a1 59 (by omega) with ⟨h1, h2⟩ | ⟨m, hm, rfl, h1, h2, h3⟩
  · rw [if_pos (show rng a1 0 59 = 0 from h1)]
    rcases h2 with h2 | h2
    · rw [if_pos h2]; exact .same hR _
    · by_cases h3 : a1 < 0
      · rw [if_pos h3]; exact .same hR _
      · obtain ⟨j, hj, rfl⟩ := nI_of h3
        rw [if_neg h3, if_neg (show ¬ nI j < 60 from fun z => h2 ((nI_leI hj (by omega)).mpr (by have := (nI_ltI (b := 60) hj (by omega)).mp z; omega)))]; exact .same hR _
  · rw [if_neg (show ¬ rng (nI m) 0 59 = 0 from h1), if_neg h2, if_pos (show nI m < 60 from nI_lt (b := 60) (by omega) (by omega))]
    by_cases hz : rng a2 0 65535 = 0
    · rw [if_pos hz, if_pos hz]; exact .same hR _
    · rw [if_neg hz, if_neg hz, g2, g3]
      by_cases hN : N = 6
      · subst hN
        rw [if_neg (show ¬ nI 6 < 6 by decide), if_pos (show nI 6 = 6 from rfl)]; exact .same hR _
      · have hN6 : N < 6 := by omega
        have n10 : ¬ (10 : Int32) = 0 := by decide
        have iN : inB (nI N) 6 := nI_in hN6 (by omega)
        have tN : tn (nI N) = N := nI_clamp (by omega)
        have i0 : inB (nI (3 * N)) 18 := nI_in (by omega) (by omega)
        have i1 : inB (nI (3 * N + 1)) 18 := nI_in (by omega) (by omega)
        have i2 : inB (nI (3 * N + 2)) 18 := nI_in (by omega) (by omega)
        have t0 : tn (nI (3 * N)) = 3 * N := nI_clamp (by omega)
        have t1 : tn (nI (3 * N + 1)) = 3 * N + 1 := nI_clamp (by omega)
        have t2 : tn (nI (3 * N + 2)) = 3 * N + 2 := nI_clamp (by omega)
        have ek : nI m / 10 = nI (m / 10) := pk_div (d := 10) (by omega) (by omega) (by omega)
        have em : rmI (nI m) 10 = nI (m % 10) := pk_rem (d := 10) (by omega) (by omega) (by omega)
        have s13 : ∀ (w : Mem) (v : Int32), setV w 13 0 (nI N) v = up w 13 0 N v := fun w v => setV_n w 0 v hN6 (by decide)
        have s14 : ∀ (w : Mem) (v : Int32), setV w 14 0 (nI N) v = up w 14 0 N v := fun w v => setV_n w 0 v hN6 (by decide)
        have s15 : ∀ (w : Mem) (v : Int32), setV w 15 0 (nI N) v = up w 15 0 N v := fun w v => setV_n w 0 v hN6 (by decide)
        have s16 : ∀ (w : Mem) (v : Int32), setV w 16 0 (nI N) v = up w 16 0 N v := fun w v => setV_n w 0 v hN6 (by decide)
        have s17 : ∀ (w : Mem) (v : Int32), setV w 17 0 (nI N) v = up w 17 0 N v := fun w v => setV_n w 0 v hN6 (by decide)
        rw [if_pos (show nI N < 6 from nI_lt (b := 6) hN6 (by omega)), if_pos n10, if_pos n10, if_neg (show ¬ nI N = 6 from fun z => hN ((nI_eq (b := 6) (by omega) (by omega)).mp z)), if_pos n10]
        unfold f_X0_comes
        rw [ob, ek, em]
        dsimp only
        simp only [up_k (show (5 : Nat) ≠ 20 by decide), up_k (show (5 : Nat) ≠ 21 by decide), up_k (show (5 : Nat) ≠ 22 by decide), g2, g3, m3, nI_1, show nI (3 * N) + 2 = nI (3 * N + 2) from nI_add _ 2, tN, t0, t1, t2, if_pos iN, if_pos i0, if_pos i1, if_pos i2, if_pos n10, s13, s14, s15, s16, s17, up_k (show (0 : Nat) ≠ 13 by decide), up_k (show (0 : Nat) ≠ 14 by decide), up_k (show (0 : Nat) ≠ 15 by decide), up_k (show (0 : Nat) ≠ 16 by decide), up_k (show (0 : Nat) ≠ 17 by decide), up_s, nI_pred]
        have hm10 := Nat.mod_lt m (show 0 < 10 by omega)
        have s16a : S16 a2 := .rng (rng_t hz).1 (rng_t hz).2
        refine ⟨_, _, _, rfl, rfl, ⟨N + 1, M, CC, ⟨⟨by omega, up_s _ _ _ _ _, up_s _ _ _ _ _, ?_, ?_, ?_, ?_, fun q hq => ?_⟩, ?_, ?_⟩, ?_, ?_, ?_, ?_⟩, ?_, ?_⟩
        · simp [up, g4]
        · simp [up, g5]
        · simp [up, g6]
        · simp [up, g7]
        · by_cases hqN : q = N
          · subst hqN
            refine ⟨by simp [up], by simp [up], by simp [up], by simp [up], by simp [up], ?_, ?_, ?_, ?_⟩
            · rw [up_k (by decide), up_j (by omega), up_j (by omega), up_s]; exact s16a
            · rw [up_k (by decide), up_j (by omega), up_s]; exact .zero
            · rw [up_k (by decide), up_s]; exact ⟨by decide, by decide⟩
            · rw [up_k (by decide), up_k (by decide), up_k (by decide), up_k (by decide), up_s]; exact ⟨nI_pos' (by omega), nI_le (b := 9) (by omega) (by omega)⟩
          · have n1 : ¬ (3 * q = 3 * N) := by omega
            have n2 : ¬ (3 * q = 3 * N + 1) := by omega
            have n3 : ¬ (3 * q = 3 * N + 2) := by omega
            have n4 : ¬ (3 * q + 1 = 3 * N) := by omega
            have n5 : ¬ (3 * q + 1 = 3 * N + 2) := by omega
            have n6 : ¬ (3 * q + 2 = 3 * N) := by omega
            have n7 : ¬ (3 * q + 2 = 3 * N + 1) := by omega
            simp [up, n1, n2, n3, n4, n5, n6, n7, hqN]
            exact g8 q (by omega)
        · exact hB.2.1.of (by simp [up]) (fun _ => by simp [up]) (fun _ => by simp [up]) (by simp [up]) (fun _ => by simp [up]) (fun _ => by simp [up])
        · exact hB.2.2.of (by simp [up])
        · simp [up]; exact hT
        · exact hS.of (fun _ _ => by simp [up]) (fun _ _ => by simp [up]) (fun a c h1 h2 => by rw [up_k (by omega), up_k (by omega), up_k (by omega), up_k (by omega), up_k (by omega), up_k (by omega)])
        · exact hP.of (by simp [up]) (fun _ => by simp [up]) (by simp [up]) (fun _ => by simp [up]) (fun _ => by simp [up])
        · refine hI.of (by omega) (Nat.le_refl _) (by simp [up]) (by simp [up]) (fun c => by simp [up]) (fun a c ha => by rw [up_i (by decide), up_i (by decide), up_i (by decide), up_i (by decide), up_i (by decide), up_i (by decide)]) (fun c => by simp [up]) (fun c => by simp [up]) (fun c hc => ?_) (fun c hc => ?_) (fun p h1 h2 => ?_)
          · have : ¬ c = N := by omega
            simp [up, this]
          · have : ¬ c = N := by omega
            simp [up, this]
          · have : p = N := by omega
            subst this
            simp [up]
            exact fun z => by
              have := (nI_eq (a := m / 10) (b := 6) (by omega) (by omega)).mp z
              omega
        · exact (((((FC.rf.up (by omega)).up (by omega)).up (by omega)).up (by omega)).up (by omega)).up (by omega)
        · exact (((((FR.rf.up (by omega)).up (by omega)).up (by omega)).up (by omega)).up (by omega)).up (by omega)
theorem lt_sub1 {a Z : Nat} (ha : a < 2 ^ 31) (hZ : Z ≤ 40) : nI a < nI Z - 1 ↔ a + 1 < Z := by
  rw [Int32.lt_iff_toInt_lt, nI_toInt ha, show (1 : Int32) = nI 1 from rfl, pk_sub_toInt (by omega) (by omega)]; omega
theorem le_sub2 {a Z : Nat} (ha : a < 2 ^ 31) (hZ : Z ≤ 40) : nI a ≤ nI Z - 2 ↔ a + 2 ≤ Z := by
  rw [Int32.le_iff_toInt_le, nI_toInt ha, show (2 : Int32) = nI 2 from rfl, pk_sub_toInt (by omega) (by omega)]; omega
theorem by_loop {z f m : Nat} (hz : z < 4) (hf : f < 40) (hm : m ≤ 6) : ∀ (r k n c : Nat) (wc wr : Mem), k + r = m → r < n → R wc wr → Out wc wr (h_X4_fishersBy_69 z (nI m) (fun x6_13 w14 => some (x6_13, w14)) n (nI c) (nI (f + 2 * k)) (nI k) wc) (h_X5_fishersBy_64 (nI z) (nI f) (nI m) (fun x5_17 w18 => some (x5_17, w18)) n (nI c) (nI k) wr) := by
  intro r
  induction r with
  | zero =>
    intro k n c wc wr hk hn hR
    obtain ⟨n, rfl⟩ : ∃ m, n = m + 1 := ⟨n - 1, by omega⟩
    unfold h_X4_fishersBy_69 h_X5_fishersBy_64
    rw [if_neg (nI_nlt (by omega) (by omega)), if_neg (nI_nlt (by omega) (by omega))]
    exact .same hR _
  | succ r ih =>
    intro k n c wc wr hk hn hR
    obtain ⟨n, rfl⟩ : ∃ m, n = m + 1 := ⟨n - 1, by omega⟩
    obtain ⟨N, M, CC, hB, hT, hS, hP, hI⟩ := id hR
    obtain ⟨e0, e1, ⟨Z, hZ, e2⟩, e4⟩ := hS z hz
    have e3 : nI f + 2 * nI k = nI (f + 2 * k) := by rw [show (2 : Int32) = nI 2 from rfl, nI_mul, nI_add]
    unfold h_X4_fishersBy_69 h_X5_fishersBy_64
    rw [if_pos (nI_lt (by omega) (by omega)), if_pos (nI_lt (by omega) (by omega)), e3, if_neg (nI_pos (by omega)), if_neg (nI_pos (by omega)), if_neg (nI_nlt (by omega) (by omega)), if_pos (nI_in hz (by omega)), show tn (nI z) = z from nI_clamp (by omega), e1, e2]
    by_cases hlt : f + 2 * k + 1 < Z
    · have i1 : inB (nI (40 * z + (f + 2 * k))) 160 := nI_in (by omega) (by omega)
      have i2 : inB (nI (40 * z + (f + 2 * k) + 1)) 160 := nI_in (by omega) (by omega)
      have t1 : tn (nI (40 * z + (f + 2 * k))) = 40 * z + (f + 2 * k) := nI_clamp (by omega)
      have t2 : tn (nI (40 * z + (f + 2 * k) + 1)) = 40 * z + (f + 2 * k) + 1 := nI_clamp (by omega)
      rw [if_pos ((lt_sub1 (by omega) hZ).mpr hlt), if_pos ((le_sub2 (by omega) hZ).mpr (by omega)), m40, nI_1 (40 * z + (f + 2 * k)), nI_1 (f + 2 * k), if_pos i1, if_pos i2, t1, t2, atV_n wc z (show f + 2 * k < lenK 19 by show _ < 40; omega) (by decide), atV_n wc z (show f + 2 * k + 1 < lenK 19 by show _ < 40; omega) (by decide), e4 _ (by omega), e4 _ (by omega), show 40 * z + (f + 2 * k + 1) = 40 * z + (f + 2 * k) + 1 by omega]
      obtain ⟨v, wc', wr', c1, r1, hR', fc, fr⟩ := b_fisher (wr 30 0 (40 * z + (f + 2 * k))) (wr 30 0 (40 * z + (f + 2 * k) + 1)) wc wr hR
      have e5 : nI (f + 2 * k) + 2 = nI (f + 2 * (k + 1)) := by rw [show (2 : Int32) = nI 2 from rfl, nI_add]; congr 1
      rw [c1, r1, ob, ob, e5, nI_1 k, nI_1 c, Int32.add_zero]
      dsimp only
      by_cases hv : v < 0
      · rw [if_pos hv, if_pos hv]
        exact (ih (k + 1) n c wc' wr' (by omega) (by omega) hR').tr fc fr
      · rw [if_neg hv, if_neg hv]
        exact (ih (k + 1) n (c + 1) wc' wr' (by omega) (by omega) hR').tr fc fr
    · rw [if_neg (fun z => hlt ((lt_sub1 (by omega) hZ).mp z)), if_neg (fun z => hlt (by have := (le_sub2 (by omega) hZ).mp z; omega))]
      exact .same hR _
theorem b_fishersBy (a1 a2 a3 a4 : Int32) : Both (f_X4_fishersBy a1 a2 a3 a4) (f_X5_fishersBy a1 a2 a3 a4) := by
  intro wc wr hR
  obtain ⟨N, M, CC, hB, hT, hS, hP, hI⟩ := id hR
  show Out wc wr _ _
  unfold f_X4_fishersBy f_X5_fishersBy
  rcases row_cases a1 with ⟨h1, h2⟩ | ⟨s, hs, rfl, h1, h2, h3, h4⟩
  · rw [h1, if_pos h2, oe_n]; exact .same hR _
  · rw [h1, if_neg h2, oe_s, if_pos h3, if_pos h3, h4]
    obtain ⟨e0, e1, ⟨Z, hZ, e2⟩, e4⟩ := hS s hs
    rcases rngc a2 2 (by omega) with ⟨h1, h2⟩ | ⟨t, ht, et, h1, h2, h3⟩
    · rw [if_pos (show rng a2 0 2 = 0 from h1)]
      rcases h2 with h2 | h2
      · rw [if_pos h2]; exact .same hR _
      · by_cases h3 : a2 < 0
        · rw [if_pos h3]; exact .same hR _
        · rw [if_neg h3, if_neg (show ¬ a2 ≤ 2 from h2)]; exact .same hR _
    · rw [if_neg (show ¬ rng a2 0 2 = 0 from h1), if_neg h2, if_pos (show a2 ≤ 2 from h3)]
      rcases rngc a4 6 (by omega) with ⟨h1, h2⟩ | ⟨m, hm, rfl, h1, h2, h3⟩
      · rw [if_pos (show rng a4 0 6 = 0 from h1)]
        rcases h2 with h2 | h2
        · rw [if_pos h2]; exact .same hR _
        · by_cases h3 : a4 < 0
          · rw [if_pos h3]; exact .same hR _
          · rw [if_neg h3, if_neg (show ¬ a4 ≤ 6 from h2)]; exact .same hR _
      · rw [if_neg (show ¬ rng (nI m) 0 6 = 0 from h1), if_neg h2, if_pos (show nI m ≤ 6 from h3), e0]
        by_cases c1 : wr 28 0 s = -1
        · rw [if_pos c1, if_pos c1]; exact .same hR _
        · rw [if_neg c1, if_neg c1]
          by_cases c2 : wr 28 0 s = a2
          · rw [if_pos c2, if_pos c2]
            by_cases hf : 0 ≤ a3 ∧ a3 < 40
            · obtain ⟨f, hf2, rfl⟩ := nI_of (Int32.not_lt.mpr hf.1)
              have := by_loop (z := s) (f := f) (m := m) hs ((nI_ltI (b := 40) hf2 (by omega)).mp hf.2) hm m 0 FU 0 wc wr (by omega) (by show m < 1000000; omega) hR
              rw [show f + 2 * 0 = f by omega, show nI 0 = 0 from rfl] at this
              exact this
            · have hF : ∃ n, FU = n + 1 := ⟨999999, rfl⟩
              obtain ⟨n, hF⟩ := hF
              rw [hF]
              unfold h_X4_fishersBy_69 h_X5_fishersBy_64
              by_cases hm0 : (0 : Int32) < nI m
              · rw [if_pos hm0, if_pos hm0]
                by_cases h3n : a3 < 0
                · rw [if_pos h3n, if_pos h3n]; exact .same hR _
                · obtain ⟨f, hf2, rfl⟩ := nI_of h3n
                  have hf40 : 40 ≤ f := by
                    by_cases h : 40 ≤ f
                    · exact h
                    · exact absurd ⟨nI_pos' hf2, nI_lt (b := 40) (by omega) (by omega)⟩ hf
                  have e5 : nI f + 2 * 0 = nI f := by rw [Int32.mul_zero, Int32.add_zero]
                  rw [if_neg h3n, if_neg h3n, e5, if_neg (Int32.lt_irrefl), if_pos (nI_in hs (by omega)), e1, show tn (nI s) = s from nI_clamp (by omega), e2, if_neg (fun z => by have := (lt_sub1 hf2 hZ).mp z; omega), if_neg (fun z => by have := (le_sub2 hf2 hZ).mp z; omega)]
                  exact .same hR _
              · rw [if_neg hm0, if_neg hm0]; exact .same hR _
          · rw [if_neg c2, if_neg c2]; exact .same hR _
theorem under_both {kd o : Int32} (wc wr : Mem) : ∃ v, f_X4_isOne kd o wc = some (v, wc) ∧ f_X5_isUnder kd o wr = some (v, wr) := by
  unfold f_X4_isOne f_X5_isUnder j_X5_isUnder_19
  unfold lkE
  unfold lkE
  unfold lkE
  rw [show Int32.ofInt 3 = 3 from rfl, show Int32.ofInt 4 = 4 from rfl]
  by_cases h3 : kd = 3
  · subst h3
    by_cases o0 : o = 0
    · subst o0; exact ⟨1, by first | rfl | simp, by first | rfl | simp⟩
    · by_cases o1 : o = 1
      · subst o1; exact ⟨1, by first | rfl | simp, by first | rfl | simp⟩
      · by_cases o3 : o = 3
        · subst o3; exact ⟨1, by first | rfl | simp, by first | rfl | simp⟩
        · have o3' : ¬ (3 : Int32) = o := fun z => o3 z.symm
          have n4 : ¬ (3 : Int32) = 4 := by decide
          refine ⟨0, by rw [if_pos rfl, if_neg o3, if_neg o1, if_neg o0], ?_⟩
          rw [if_neg o0, if_neg o3', if_neg o1]
          split
          · rfl
          · rfl
  · by_cases h4 : kd = 4
    · subst h4
      by_cases o0 : o = 0
      · subst o0; exact ⟨1, by first | rfl | simp, by first | rfl | simp⟩
      · by_cases o2 : o = 2
        · subst o2; exact ⟨1, by first | rfl | simp, by first | rfl | simp⟩
        · by_cases o4 : o = 4
          · subst o4; exact ⟨1, by first | rfl | simp, by first | rfl | simp⟩
          · have o4' : ¬ (4 : Int32) = o := fun z => o4 z.symm
            refine ⟨0, by rw [if_neg h3, if_pos rfl, if_neg o4, if_neg o2, if_neg o0], ?_⟩
            rw [if_neg o0, if_neg o4', if_neg o2]
            split
            · rfl
            · rfl
    · rw [if_neg h3, if_neg h4]
      by_cases ok : o = kd
      · rw [if_pos ok]
        refine ⟨1, rfl, ?_⟩
        split
        · rfl
        · rw [if_pos ok.symm]
      · rw [if_neg ok]
        by_cases o0 : o = 0
        · rw [if_pos o0, if_pos o0]; exact ⟨1, rfl, rfl⟩
        · rw [if_neg o0, if_neg o0, if_neg (fun z => ok z.symm), if_neg h3, if_neg h4]
          refine ⟨0, rfl, ?_⟩
          split <;> split <;> rfl
theorem b_taken (a1 a2 : Int32) : Both (f_X4_taken a1 a2) (f_X5_taken a1 a2) := by
  intro wc wr hR
  obtain ⟨N, M, CC, hB, hT, hS, hP, hI⟩ := id hR
  show Out wc wr _ _
  obtain ⟨g1, g2, g3, g4, g5, g6, g7, g8⟩ := id hB.1
  have n6 : ¬ (6 : Int32) = 0 := by decide
  unfold f_X4_taken f_X5_taken
  rcases rngc a2 6 (by omega) with ⟨h1, h2⟩ | ⟨m, hm, rfl, h1, h2, h3⟩
  · rw [if_pos (show rng a2 0 6 = 0 from h1)]
    rcases h2 with h2 | h2
    · rw [if_pos h2]; exact .same hR _
    · by_cases h3 : a2 < 0
      · rw [if_pos h3]; exact .same hR _
      · rw [if_neg h3, if_neg (show ¬ a2 ≤ 6 from h2)]; exact .same hR _
  · rw [if_neg (show ¬ rng (nI m) 0 6 = 0 from h1), if_neg h2, if_pos (show nI m ≤ 6 from h3)]
    rcases rngc a1 11 (by omega) with ⟨h1, h2⟩ | ⟨i, hi, rfl, h1, h2, h3⟩
    · rw [if_pos (show rng a1 0 11 = 0 from h1)]
      rcases h2 with h2 | h2
      · rw [if_pos h2]; exact .same hR _
      · by_cases h3 : a1 < 0
        · rw [if_pos h3]; exact .same hR _
        · obtain ⟨j, hj, rfl⟩ := nI_of h3
          rw [if_neg h3, if_neg (show ¬ nI j < 12 from fun z => h2 ((nI_leI hj (by omega)).mpr (by have := (nI_ltI (b := 12) hj (by omega)).mp z; omega)))]; exact .same hR _
    · rw [if_neg (show ¬ rng (nI i) 0 11 = 0 from h1), if_neg h2, if_pos (show nI i < 12 from nI_lt (b := 12) (by omega) (by omega)), if_pos n6, if_pos n6, show rmI (nI i) 6 = nI (i % 6) from pk_rem (d := 6) (by omega) (by omega) (by omega), g2, g3]
      have hp6 := Nat.mod_lt i (show 0 < 6 by omega)
      by_cases hp : i % 6 < N
      · obtain ⟨k1, k2, k3, -⟩ := g8 (i % 6) hp
        rw [if_neg (show ¬ hasF (nI (i % 6)) (nI N) = 0 by rw [has_1 g1 hp]; decide), if_pos (nI_lt hp (by omega)), atV_n wc 0 (show i % 6 < lenK 13 from hp6) (by decide), atV_n wc 0 (show i % 6 < lenK 15 from hp6) (by decide), k1, k3]
        by_cases h6 : i < 6
        · have e : i % 6 = i := Nat.mod_eq_of_lt h6
          rw [if_pos (show nI i < 6 from nI_lt (b := 6) h6 (by omega)), if_pos (show nI i < 6 from nI_lt (b := 6) h6 (by omega)), e, if_pos (nI_in h6 (by omega)), show tn (nI i) = i from nI_clamp (by omega)]
          obtain ⟨v, c1, r1⟩ := under_both (kd := wr 20 0 i) (o := nI m) wc wr
          rw [c1, r1, ob, ob]
          dsimp only
          by_cases hm6 : m < 6
          · rw [if_pos (show nI m < 6 from nI_lt (b := 6) hm6 (by omega))]
            split <;> exact .same hR _
          · have em : m = 6 := by omega
            subst em
            rw [if_neg (show ¬ nI 6 < 6 by decide)]
            have hk := hI.1 i (by omega)
            have hv : v = 0 := by
              unfold f_X5_isUnder j_X5_isUnder_19 at r1
              rw [if_neg (show ¬ nI 6 = 0 by decide), if_neg (show ¬ wr 20 0 i = nI 6 from hk), if_neg (show ¬ nI 6 = 1 by decide), if_neg (show ¬ nI 6 = 2 by decide)] at r1
              exact (congrArg (fun z => z.1) (Option.some.inj r1)).symm
            rw [if_pos hv]; exact .same hR _
        · rw [if_neg (show ¬ nI i < 6 from nI_nlt (b := 6) (by omega) (by omega)), if_neg (show ¬ nI i < 6 from nI_nlt (b := 6) (by omega) (by omega)), show nI i - 6 = nI (i - 6) by rw [show (6 : Int32) = nI 6 from rfl, nI_sub (by omega)], m3, if_pos (nI_in (by omega) (by omega)), show tn (nI (3 * (i - 6))) = 3 * (i - 6) from nI_clamp (by omega), show i - 6 = i % 6 by omega]
          split <;> exact .same hR _
      · rw [if_pos (show hasF (nI (i % 6)) (nI N) = 0 from b2i_f (fun z => hp ((nI_ltI (by omega) (by omega)).mp z.2))), if_neg (nI_nlt (by omega) (by omega))]; exact .same hR _
theorem b_image : Both f_X4_image f_X5_image := by
  intro wc wr hR
  obtain ⟨N, M, CC, hB, hT, hS, hP, hI⟩ := id hR
  show Out wc wr _ _
  obtain ⟨g1, g2, g3, g4, g5, g6, g7, g8⟩ := id hB.1
  obtain ⟨wc1, c1, as1⟩ := become_c (i := 2) (j := 0) (by decide) wc
  have loop : ∀ (k : Mem → Option (Int32 × Mem)) (w2 : Mem) (r q n : Nat) (w1 : Mem), q + r = 18 → r < n → (∀ c, c < q → w1 26 0 c = w2 22 0 c) → OnlyK 26 w2 w1 → ∃ w', h_X5_image_7 k n (nI q) w1 = k w' ∧ (∀ c, c < 18 → w' 26 0 c = w2 22 0 c) ∧ OnlyK 26 w2 w' := by
    intro k w2 r
    induction r with
    | zero =>
      intro q n w1 hq hn h1 h2
      obtain ⟨n, rfl⟩ : ∃ m, n = m + 1 := ⟨n - 1, by omega⟩
      have e : q = 18 := by omega
      subst e
      refine ⟨w1, ?_, h1, h2⟩
      unfold h_X5_image_7
      rw [if_neg (show ¬ nI 18 < 18 by decide)]
    | succ r ih =>
      intro q n w1 hq hn h1 h2
      obtain ⟨n, rfl⟩ : ∃ m, n = m + 1 := ⟨n - 1, by omega⟩
      unfold h_X5_image_7
      rw [if_pos (show nI q < 18 from nI_lt (a := q) (b := 18) (by omega) (by omega)), if_pos (nI_in (by omega) (by omega)), if_pos (nI_in (by omega) (by omega)), show tn (nI q) = q from nI_clamp (by omega), nI_1]
      refine ih (q + 1) n _ (by omega) (by omega) ?_ h2.up
      intro c hc
      by_cases e : c = q
      · subst e; rw [up_s]; exact h2 22 0 c (by decide)
      · rw [up_j e]; exact h1 c (by omega)
  unfold f_X4_image f_X5_image
  rw [c1, ob, if_pos rfl, if_pos rfl]
  simp only [show tn 0 = 0 by decide, show tn 1 = 1 by decide, show tn 2 = 2 by decide, show tn 3 = 3 by decide, up_k (show (5 : Nat) ≠ 27 by decide), if_pos (show inB 0 4 by decide), if_pos (show inB 1 4 by decide), if_pos (show inB 2 4 by decide), if_pos (show inB 3 4 by decide)]
  obtain ⟨w4, e1, e2, e3⟩ := loop (fun w5 => some (w5 5 0 0, up (up (up (up w5 27 0 0 (w5 5 0 0)) 27 0 1 (w5 5 0 4)) 27 0 2 (w5 5 0 5)) 27 0 3 (w5 5 0 11))) (up wr 5 0 12 1) 18 0 FU (up wr 5 0 12 1) rfl (by show 18 < 1000000; omega) (fun c hc => by omega) OnlyK.rf
  rw [show nI 0 = 0 from rfl] at e1
  rw [e1]
  have f5 : ∀ c, c ≠ 12 → w4 5 0 c = wr 5 0 c := fun c hc => (e3 5 0 c (by decide)).trans (up_j hc)
  have fo : ∀ a b c, a ≠ 5 → a ≠ 26 → w4 a b c = wr a b c := fun a b c h1 h2 => (e3 a b c h2).trans (up_k h1)
  have as2 := as1.2.2
  rw [show up wc1 4 0 5 1 0 2 2 = w4 5 0 0 by rw [up_k (by decide), f5 0 (by decide), as1.1 2 (by omega), g2, g3]]
  generalize hw : up (up (up (up w4 27 0 0 (w4 5 0 0)) 27 0 1 (w4 5 0 4)) 27 0 2 (w4 5 0 5)) 27 0 3 (w4 5 0 11) = wr'
  have x5 : ∀ c, c ≠ 12 → wr' 5 0 c = wr 5 0 c := fun c hc => by rw [← hw, up_k (by decide), up_k (by decide), up_k (by decide), up_k (by decide)]; exact f5 c hc
  have x12 : wr' 5 0 12 = 1 := by rw [← hw, up_k (by decide), up_k (by decide), up_k (by decide), up_k (by decide), e3 5 0 12 (by decide), up_s]
  have xo : ∀ a b c, a ≠ 5 → a ≠ 26 → a ≠ 27 → wr' a b c = wr a b c := fun a b c h1 h2 h3 => by rw [← hw, up_k h3, up_k h3, up_k h3, up_k h3]; exact fo a b c h1 h2
  have x26 : ∀ c, c < 18 → wr' 26 0 c = wr 22 0 c := fun c hc => by rw [← hw, up_k (by decide), up_k (by decide), up_k (by decide), up_k (by decide), e2 c hc, up_k (by decide)]
  have y0 : wr' 27 0 0 = wr 5 0 0 := by rw [← hw]; simp [up]; exact f5 0 (by decide)
  have y1 : wr' 27 0 1 = wr 5 0 4 := by rw [← hw]; simp [up]; exact f5 4 (by decide)
  have y2 : wr' 27 0 2 = wr 5 0 5 := by rw [← hw]; simp [up]; exact f5 5 (by decide)
  have y3 : wr' 27 0 3 = wr 5 0 11 := by rw [← hw]; simp [up]; exact f5 11 (by decide)
  have hB2 : CR 2 N wc1 wr := hB.1.as as1
  refine ⟨_, _, _, rfl, rfl, ⟨N, M, CC, ⟨hB.1.of (fun c => ?_) (fun a c ha => ?_) (fun c hc => x5 c (by omega)) (fun c _ => xo 22 0 c (by omega) (by omega) (by omega)) (fun c => xo 20 0 c (by omega) (by omega) (by omega)) (fun c => xo 21 0 c (by omega) (by omega) (by omega)), hB.2.1.of ?_ (fun c => ?_) (fun c => ?_) (x5 10 (by decide)) (fun c => xo 24 0 c (by omega) (by omega) (by omega)) (fun c => xo 25 0 c (by omega) (by omega) (by omega)), hB.2.2.of (x5 11 (by decide))⟩, by rw [x5 5 (by decide)]; exact hT, hS.of (fun s c => ?_) (fun s c => ?_) (fun a c h1 h2 => xo a 0 c (by omega) (by omega) (by omega)), hP.of ?_ (fun c => ?_) (x5 7 (by decide)) (fun c => xo 23 0 c (by omega) (by omega) (by omega)) (fun c => xo 32 0 c (by omega) (by omega) (by omega)), fun p hp => ?_, ?_, Or.inr ⟨N, Nat.le_refl _, hB2.of (fun c => ?_) (fun a c ha => ?_) (fun c hc => ?_) (fun c hc => ?_) (fun c => ?_) (fun c => ?_), ?_, ?_⟩⟩, ?_, ?_⟩
  · rw [up_k (by decide)]; exact as2 0 0 c (by omega)
  · rw [up_k (by omega)]; exact as2 a 0 c (by omega)
  · rw [up_k (by decide)]; exact as2 3 0 0 (by omega)
  · rw [up_k (by decide)]; exact as2 6 0 c (by omega)
  · rw [up_k (by decide)]; exact as2 7 0 c (by omega)
  · rw [up_k (by decide)]; exact as2 2 s c (by omega)
  · rw [up_k (by decide)]; exact as2 19 s c (by omega)
  · rw [up_k (by decide)]; exact as2 1 0 1 (by omega)
  · rw [up_k (by decide)]; exact as2 9 0 c (by omega)
  · rw [xo 20 0 p (by omega) (by omega) (by omega)]; exact hI.1 p hp
  · rw [up_s, x12]
  · rw [up_k (by decide)]
  · rw [up_k (by omega)]
  · rcases hc with rfl | rfl | rfl | rfl
    · exact y0
    · exact y1
    · exact y2
    · exact y3
  · exact x26 c hc
  · exact xo 20 0 c (by omega) (by omega) (by omega)
  · exact xo 21 0 c (by omega) (by omega) (by omega)
  · obtain ⟨t, ht, e⟩ := hB.2.2
    exact ⟨t, ht, y3.trans e⟩
  · rw [y2]; exact hT
  · exact (as2.th.f).tr (FC.rf.up (by omega))
  · exact fun a b c ha => xo a b c (by omega) (by omega) (by omega)
