/-! back: both sides -/
theorem b_back : Both f_X4_back f_X5_back := by
  intro wc wr hR
  obtain ⟨N, M, CC, hB, hT, hS, hP, hI⟩ := id hR
  show Out wc wr _ _
  obtain ⟨i0, i1, i2⟩ := hI
  unfold f_X4_back f_X5_back
  rw [i1]
  rcases i2 with i2 | ⟨K, hK, hC, hL, hTB⟩
  · rw [if_pos i2, if_pos i2]; exact .same hR _
  · by_cases h12 : wr 5 0 12 = 0
    · rw [if_pos h12, if_pos h12]; exact .same hR _
    · rw [if_neg h12, if_neg h12]
      obtain ⟨wc1, c1, as1⟩ := become_c (i := 0) (j := 2) (by decide) wc
      have loop : ∀ (k : Mem → Option (Int32 × Mem)) (w2 : Mem) (r q n : Nat) (w1 : Mem), q + r = 18 → r < n → (∀ c, c < q → w1 22 0 c = w2 26 0 c) → OnlyK 22 w2 w1 → ∃ w', h_X5_back_12 k n (nI q) w1 = k w' ∧ (∀ c, c < 18 → w' 22 0 c = w2 26 0 c) ∧ OnlyK 22 w2 w' := by
        intro k w2 r
        induction r with
        | zero =>
          intro q n w1 hq hn h1 h2
          obtain ⟨n, rfl⟩ : ∃ m, n = m + 1 := ⟨n - 1, by omega⟩
          have e : q = 18 := by omega
          subst e
          refine ⟨w1, ?_, h1, h2⟩
          unfold h_X5_back_12
          rw [if_neg (show ¬ nI 18 < 18 by decide)]
        | succ r ih =>
          intro q n w1 hq hn h1 h2
          obtain ⟨n, rfl⟩ : ∃ m, n = m + 1 := ⟨n - 1, by omega⟩
          unfold h_X5_back_12
          rw [if_pos (show nI q < 18 from nI_lt (a := q) (b := 18) (by omega) (by omega)), if_pos (nI_in (by omega) (by omega)), if_pos (nI_in (by omega) (by omega)), show tn (nI q) = q from nI_clamp (by omega), nI_1]
          refine ih (q + 1) n _ (by omega) (by omega) ?_ h2.up
          intro c hc
          by_cases e : c = q
          · subst e; rw [up_s]; exact h2 26 0 c (by decide)
          · rw [up_j e]; exact h1 c (by omega)
      rw [c1, ob]
      simp only [show tn 0 = 0 by decide, show tn 1 = 1 by decide, show tn 2 = 2 by decide, show tn 3 = 3 by decide, up_k (show (27 : Nat) ≠ 5 by decide), if_pos (show inB 0 4 by decide), if_pos (show inB 1 4 by decide), if_pos (show inB 2 4 by decide), if_pos (show inB 3 4 by decide)]
      obtain ⟨w4, e1, e2, e3⟩ := loop (fun w5 => some (up (up (up (up w5 5 0 0 (w5 27 0 0)) 5 0 4 (w5 27 0 1)) 5 0 5 (w5 27 0 2)) 5 0 11 (w5 27 0 3) 5 0 0, up (up (up (up w5 5 0 0 (w5 27 0 0)) 5 0 4 (w5 27 0 1)) 5 0 5 (w5 27 0 2)) 5 0 11 (w5 27 0 3))) wr 18 0 FU wr rfl (by show 18 < 1000000; omega) (fun c hc => by omega) OnlyK.rf
      rw [show nI 0 = 0 from rfl] at e1
      rw [e1]
      have f27 : ∀ c, w4 27 0 c = wr 27 0 c := fun c => e3 27 0 c (by decide)
      generalize hw : up (up (up (up w4 5 0 0 (w4 27 0 0)) 5 0 4 (w4 27 0 1)) 5 0 5 (w4 27 0 2)) 5 0 11 (w4 27 0 3) = wr'
      have y0 : wr' 5 0 0 = wr 27 0 0 := by rw [← hw]; simp [up]; exact f27 0
      have y4 : wr' 5 0 4 = wr 27 0 1 := by rw [← hw]; simp [up]; exact f27 1
      have y5 : wr' 5 0 5 = wr 27 0 2 := by rw [← hw]; simp [up]; exact f27 2
      have y11 : wr' 5 0 11 = wr 27 0 3 := by rw [← hw]; simp [up]; exact f27 3
      have xo5 : ∀ c, c ≠ 0 → c ≠ 4 → c ≠ 5 → c ≠ 11 → wr' 5 0 c = wr 5 0 c := fun c h0 h4 h5 h11 => by
        rw [← hw, up_j h11, up_j h5, up_j h4, up_j h0]; exact e3 5 0 c (by decide)
      have xo : ∀ a b c, a ≠ 5 → a ≠ 22 → wr' a b c = wr a b c := fun a b c h1 h2 => by rw [← hw, up_k h1, up_k h1, up_k h1, up_k h1]; exact e3 a b c h2
      have x22 : ∀ c, c < 18 → wr' 22 0 c = wr 26 0 c := fun c hc => by rw [← hw, up_k (by decide), up_k (by decide), up_k (by decide), up_k (by decide)]; exact e2 c hc
      have hC0 : CR 0 K wc1 (img wr) := hC.as as1
      have as2 := as1.2.2
      have v0 : wc1 0 0 2 = wr' 5 0 0 := by
        rw [y0, hC0.2.1, ← hC0.2.2.1]; rfl
      rw [v0]
      refine ⟨_, _, _, rfl, rfl, ⟨K, M, CC, ⟨hC0.of (fun _ => rfl) (fun _ _ _ => rfl) (fun c hc => ?_) (fun c hc => ?_) (fun c => xo 20 0 c (by omega) (by omega)) (fun c => xo 21 0 c (by omega) (by omega)), hB.2.1.of (as2 3 0 0 (by omega)) (fun c => as2 6 0 c (by omega)) (fun c => as2 7 0 c (by omega)) (xo5 10 (by decide) (by decide) (by decide) (by decide)) (fun c => xo 24 0 c (by omega) (by omega)) (fun c => xo 25 0 c (by omega) (by omega)), ?_⟩, by rw [y5]; exact hTB, hS.of (fun s c => as2 2 s c (by omega)) (fun s c => as2 19 s c (by omega)) (fun a c h1 h2 => xo a 0 c (by omega) (by omega)), hP.of (as2 1 0 1 (by omega)) (fun c => as2 9 0 c (by omega)) (xo5 7 (by decide) (by decide) (by decide) (by decide)) (fun c => xo 23 0 c (by omega) (by omega)) (fun c => xo 32 0 c (by omega) (by omega)), fun p hp => ?_, ?_, Or.inr ⟨K, Nat.le_refl _, hC.of (fun c => as2 0 2 c (by omega)) (fun a c ha => as2 a 2 c (by omega)) (fun c hc => ?_) (fun c hc => ?_) (fun c => xo 20 0 c (by omega) (by omega)) (fun c => xo 21 0 c (by omega) (by omega)), ?_, ?_⟩⟩, as2.th.f, ?_⟩
      · rcases hc with rfl | rfl | rfl | rfl
        · exact y0
        · exact y4
        · exact y5
        · exact y11
      · exact x22 c hc
      · obtain ⟨t, ht, e⟩ := hL
        exact ⟨t, ht, y11.trans e⟩
      · rw [xo 20 0 p (by omega) (by omega)]; exact i0 p (by omega)
      · rw [as2 4 0 5 (by omega), xo5 12 (by decide) (by decide) (by decide) (by decide)]; exact i1
      · rcases hc with rfl | rfl | rfl | rfl
        · exact xo 27 0 0 (by omega) (by omega)
        · exact xo 27 0 1 (by omega) (by omega)
        · exact xo 27 0 2 (by omega) (by omega)
        · exact xo 27 0 3 (by omega) (by omega)
      · exact xo 26 0 c (by omega) (by omega)
      · obtain ⟨t, ht, e⟩ := hL
        exact ⟨t, ht, (xo 27 0 3 (by omega) (by omega)).trans e⟩
      · rw [xo 27 0 2 (by omega) (by omega)]; exact hTB
      · intro a b c ha
        rw [← hw, up_k (by omega), up_k (by omega), up_k (by omega), up_k (by omega)]
        exact e3 a b c (by omega)
