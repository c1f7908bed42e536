/-! a tide goes: both sides -/
theorem pw_zero {n : Nat} : ∀ k, (∀ s, s < k → n / 2 ^ s % 2 = 0) → n = 2 ^ k * (n / 2 ^ k) := by
  intro k
  induction k with
  | zero => intro _; simp
  | succ k ih =>
    intro h
    have h1 := ih (fun s hs => h s (by omega))
    have h2 := h k (by omega)
    have h3 : n / 2 ^ (k + 1) = n / 2 ^ k / 2 := by rw [Nat.pow_succ, Nat.div_div_eq_div_mul]
    have h4 : n / 2 ^ k = 2 * (n / 2 ^ k / 2) := by omega
    rw [h3, Nat.pow_succ, Nat.mul_assoc, ← h4]
    exact h1
theorem nth0 {n : Nat} (hn : n < 65536) : ∀ k t, t + k = 16 → nthG (nI n) 0 k (nI t) 0 = -1 → ∀ s, t ≤ s → s < 16 → n / 2 ^ s % 2 = 0 := by
  intro k
  induction k with
  | zero => intro t h _ s h1 h2; omega
  | succ k ih =>
    intro t h hg s h1 h2
    unfold nthG at hg
    rw [bit_N (by omega) (by omega)] at hg
    by_cases hb : n / 2 ^ t % 2 = 1
    · rw [hb, if_pos (show nI 1 = 1 from rfl), if_pos rfl] at hg
      exact absurd (show nI t < 0 by rw [hg]; decide) (nI_pos (by omega))
    · have hb0 : n / 2 ^ t % 2 = 0 := by omega
      rw [hb0, if_neg (show ¬ nI 0 = 1 by decide), nI_1] at hg
      by_cases hs : s = t
      · subst hs; exact hb0
      · exact ih (t + 1) (by omega) hg s (by omega) h2
theorem nth_none {x : Int32} (h : S16 x) (hx : nthF x 0 = -1) : x = 0 := by
  obtain ⟨n, hn, rfl⟩ := h
  have h1 := pw_zero (n := n) 16 (fun s hs => nth0 hn 16 0 rfl hx s (by omega) hs)
  have h2 : n / 2 ^ 16 = 0 := by omega
  rw [h2] at h1
  rw [h1]; rfl
theorem nth_zero : nthF 0 0 = -1 := by decide +kernel
theorem fewest_loop {i N M : Nat} {CC : Nat → Nat → List Int32} {wc wr : Mem} (h : Bo i N M CC wc wr) (x1 : Int32) (kc kr : Int32 → Mem → Option (Int32 × Mem)) : ∀ (j q n a : Nat), q + j = N → j < n → a < N → ∃ b, b < N ∧ h_X0_washes_30 i kc n (nI a) (nI q) wc = kc (nI b) wc ∧ h_X5_tideOf_37 x1 kr n (nI a) (nI q) wr = kr (nI b) wr := by
  obtain ⟨g1, g2, g3, g4, g5, g6, g7, g8⟩ := h.1
  intro j
  induction j with
  | zero =>
    intro q n a hq hn ha
    obtain ⟨n, rfl⟩ : ∃ m, n = m + 1 := ⟨n - 1, by omega⟩
    refine ⟨a, ha, ?_, ?_⟩
    · unfold h_X0_washes_30
      rw [g2, if_neg (nI_nlt (by omega) (by omega))]
    · unfold h_X5_tideOf_37
      rw [g3, if_neg (nI_nlt (by omega) (by omega))]
  | succ j ih =>
    intro q n a hq hn ha
    obtain ⟨n, rfl⟩ : ∃ m, n = m + 1 := ⟨n - 1, by omega⟩
    have hq6 : q < 6 := by omega
    have ha6 : a < 6 := by omega
    have eq15 : atV wc 15 i (nI q) = wr 22 0 (3 * q) := (atV_n wc i hq6 (by decide)).trans (g8 q (by omega)).2.2.1
    have ea15 : atV wc 15 i (nI a) = wr 22 0 (3 * a) := (atV_n wc i ha6 (by decide)).trans (g8 a ha).2.2.1
    have bq : bcF (wr 22 0 (3 * q)) = bitsF (wr 22 0 (3 * q)) := ((g8 q (by omega)).2.2.2.2.2.1).bc
    have ba : bcF (wr 22 0 (3 * a)) = bitsF (wr 22 0 (3 * a)) := ((g8 a ha).2.2.2.2.2.1).bc
    have iq : inB (nI (3 * q)) 18 := nI_in (by omega) (by omega)
    have ia : inB (nI (3 * a)) 18 := nI_in (by omega) (by omega)
    have tq : tn (nI (3 * q)) = 3 * q := nI_clamp (by omega)
    have ta : tn (nI (3 * a)) = 3 * a := nI_clamp (by omega)
    unfold h_X0_washes_30 h_X5_tideOf_37
    rw [g2, g3, if_pos (nI_lt (by omega) (by omega)), if_pos (nI_lt (by omega) (by omega)), eq15, ea15, bq, ba, m3, m3, if_pos iq, if_pos ia, tq, ta, nI_1]
    by_cases hlt : bitsF (wr 22 0 (3 * q)) < bitsF (wr 22 0 (3 * a))
    · rw [if_pos hlt, if_pos hlt]
      exact ih (q + 1) n q (by omega) (by omega) (by omega)
    · rw [if_neg hlt, if_neg hlt]
      exact ih (q + 1) n a (by omega) (by omega) ha
theorem CR.tide {i N : Nat} {wc wr : Mem} (h : CR i N wc wr) (td : Int32) : CR i N (up wc 0 i 4 td) (up wr 5 0 5 td) := by
  obtain ⟨h1, h2, h3, h4, h5, h6, h7, h8⟩ := h
  exact ⟨h1, by simp [up, h2], by simp [up, h3], by simp [up, h4], by simp [up, h5], by simp [up], by simp [up, h7], fun p hp => by simp [up]; exact h8 p hp⟩
theorem washes_both {i N M : Nat} {CC : Nat → Nat → List Int32} {wc wr : Mem} (h : Bo i N M CC wc wr) : ∃ (v : Int32) (wc' wr' : Mem), f_X0_washes i wc = some (v, wc') ∧ f_X5_tideOf wr = some (v, wr') ∧ Bo i N M CC wc' wr' ∧ ThC i wc wc' ∧ ThR wr wr' ∧ wr' 5 0 5 = wr 5 0 5 + 1 ∧ ∀ q, wr' 22 0 (3 * q + 2) = wr 22 0 (3 * q + 2) := by
  have e4 : wc 0 i 4 = wr 5 0 5 := h.1.2.2.2.2.2.1
  generalize htd : wr 5 0 5 + 1 = td
  have fc : ThC i wc (up wc 0 i 4 td) := ThC.rf.up (by omega)
  have fr : ThR wr (up wr 5 0 5 td) := ThR.rf.up5 (by omega)
  have h2 : Bo i N M CC (up wc 0 i 4 td) (up wr 5 0 5 td) := ⟨h.1.tide td, h.2.1.th fc fr, h.2.2.th fr⟩
  have r5 : (up wr 5 0 5 td) 5 0 5 = td := up_s _ _ _ _ _
  have rl : ∀ q, (up wr 5 0 5 td) 22 0 (3 * q + 2) = wr 22 0 (3 * q + 2) := fun q => up_k (by decide)
  unfold f_X0_washes f_X5_tideOf
  rw [e4, htd]
  generalize up wc 0 i 4 td = wc1 at *
  generalize up wr 5 0 5 td = wr1 at *
  obtain ⟨hC, hT, hL⟩ := id h2
  obtain ⟨g1, g2, g3, g4, g5, g6, g7, g8⟩ := id hC
  by_cases hN0 : N = 0
  · subst hN0
    rw [g2, g3, if_pos (show nI 0 = 0 from rfl), if_pos (show nI 0 = 0 from rfl)]
    exact ⟨-1, wc1, wr1, rfl, rfl, h2, fc, fr, r5, rl⟩
  · have hn0 : ¬ nI N = 0 := nI_ne0 (by omega) (by omega)
    rw [g2, g3, if_neg hn0, if_neg hn0, g4]
    by_cases hs : wr1 5 0 4 = 0
    · rw [hs, if_pos rfl, nth_zero, if_pos rfl]
      exact ⟨-1, wc1, wr1, rfl, rfl, h2, fc, fr, r5, rl⟩
    · have hnn : ¬ nthF (wr1 5 0 4) 0 = -1 := fun z => hs (nth_none g5 z)
      rw [if_neg hs, if_neg hnn]
      obtain ⟨t, ht, het⟩ := (nthF_r (wr1 5 0 4) 0).resolve_left hnn
      obtain ⟨b, hb, l1, l2⟩ := fewest_loop h2 (nthF (wr1 5 0 4) 0) (fun x1_5 w6 => Option.bind (f_X0_isTold i x1_5 (shlI 1 (nthF (w6 0 i 3) 0)) (up w6 0 i 3 ((w6 0 i 3) &&& ((shlI 1 (nthF (w6 0 i 3) 0)) ^^^ (-1))))) (fun r7 => some (nthF (w6 0 i 3) 0, r7))) (fun x2_7 w8 => if inB (3 * x2_7) 18 then (if inB (3 * x2_7) 18 then (some (nthF (wr1 5 0 4) 0, up (up w8 5 0 4 ((w8 5 0 4) &&& ((shlI 1 (nthF (wr1 5 0 4) 0)) ^^^ (-1)))) 22 0 (tn (3 * x2_7)) (((up w8 5 0 4 ((w8 5 0 4) &&& ((shlI 1 (nthF (wr1 5 0 4) 0)) ^^^ (-1)))) 22 0 (tn (3 * x2_7))) ||| (shlI 1 (nthF (wr1 5 0 4) 0))))) else none) else none) (N - 1) 1 FU 0 (by omega) (by show N - 1 < 1000000; omega) (by omega)
      have l1' := l1
      rw [show nI 0 = 0 from rfl, show nI 1 = 1 from rfl] at l1 l2
      rw [l1, l2]
      have hb6 : b < 6 := by omega
      obtain ⟨k1, k2, k3, k4, k5, k6, k7, k8, k9⟩ := g8 b hb
      have ib : inB (nI (3 * b)) 18 := nI_in (by omega) (by omega)
      have tb : tn (nI (3 * b)) = 3 * b := nI_clamp (by omega)
      have a15 : ∀ w : Mem, atV w 15 i (nI b) = w 15 i b := fun w => atV_n w i hb6 (by decide)
      have s15 : ∀ (w : Mem) (v : Int32), setV w 15 i (nI b) v = up w 15 i b v := fun w v => setV_n w i v hb6 (by decide)
      unfold f_X0_isTold
      rw [m3, if_pos ib, if_pos ib, tb, g4, het, s15, a15, up_k (show (15 : Nat) ≠ 0 by decide), k3, up_k (show (22 : Nat) ≠ 5 by decide)]
      have hse : S16 (wr1 5 0 4 &&& (shlI 1 (nI t) ^^^ (-1))) := g5.andl _
      have hkn : S16 (wr1 22 0 (3 * b) ||| shlI 1 (nI t)) := k6.or (.bit ht)
      generalize wr1 5 0 4 &&& (shlI 1 (nI t) ^^^ (-1)) = se at *
      generalize wr1 22 0 (3 * b) ||| shlI 1 (nI t) = kn at *
      have fc2 : ThC i wc1 (up (up wc1 0 i 3 se) 15 i b kn) := (ThC.rf.up (by omega)).up (by omega)
      have fr2 : ThR wr1 (up (up wr1 5 0 4 se) 22 0 (3 * b) kn) := (ThR.rf.up5 (by omega)).up2
      refine ⟨nI t, _, _, rfl, rfl, ⟨CR.upd (p := b) (kn := kn) (kp := wr1 22 0 (3 * b + 1)) (lk := wr1 22 0 (3 * b + 2)) (se := se) (td := wr1 5 0 5) hC hkn k7 k8 hse ?_ ?_ ?_ ?_ ?_ ?_ ?_ ?_ ?_ ?_, hT.th fc2 fr2, hL.th fr2⟩, fc.tr fc2, fr.tr fr2, ?_, fun q => ?_⟩
      · simp [up]
      · simp [up]
      · simp [up, g6]
      · simp [up]
      · intro q hq
        refine ⟨by simp [up], by simp [up], by simp [up], ?_, ?_⟩
        · by_cases hqp : q = b
          · subst hqp; simp [up, k4]
          · simp [up, hqp]
        · by_cases hqp : q = b
          · subst hqp; simp [up, k5]
          · simp [up, hqp]
      · simp [up]
      · simp [up]
      · simp [up]
      · simp [up]
      · intro q hq
        have n7 : ¬ (3 * q + 1 = 3 * b) := by omega
        have n8 : ¬ (3 * q + 2 = 3 * b) := by omega
        by_cases hqp : q = b
        · subst hqp; simp [up, n7, n8]
        · have n9 : ¬ (3 * q = 3 * b) := by omega
          simp [up, n7, n8, n9, hqp]
      · simp [up, r5]
      · rw [up_j (by omega), up_k (by decide)]; exact rl q
